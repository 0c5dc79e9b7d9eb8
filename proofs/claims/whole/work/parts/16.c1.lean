def f_X6_join (b : Nat) (a0 : Int32) (a1 : Int32) (a2 : Int32) (μ : Mem) : Option (Mem) :=
  if (μ b 5) < 10 then
    bn1 (stM μ (b + 1) 10 (μ b 5) a0) fun m1 =>
    bn1 (stM m1 (b + 2) 10 (m1 b 5) a2) fun m2 =>
    bn1 (stM m2 (b + 3) 10 (m2 b 5) 0) fun m3 =>
    bn1 (stM m3 (b + 4) 10 (m3 b 5) 0) fun m4 =>
    nm (mset m4 b 6 ((m4 b 6) ||| (a1 <<< ((m4 b 5) &&& 31)))) fun m5 =>
    nm (mset m5 b 5 ((m5 b 5) + 1)) fun m6 =>
    some m6
  else
    some μ
set_option maxRecDepth 100000 in
set_option maxHeartbeats 4000000 in
theorem c_X6_join {Y : SYS} (hC : IsC Y) {b : Nat} {a0 : Int32} {a1 : Int32} {a2 : Int32} {μ : Mem} {m : Mem} (hb : TownAt b) (hf : f_X6_join b a0 a1 a2 μ = some m) : KC Y yX6_join cX6_join 4 none 0 [.ref (sq Y b), .int a0, .int a1, .int a2] μ none m := by
  refine KC.V RX6 [(0, .ref (sq Y b)), (1, .int a0), (2, .int a1), (3, .int a2)] (by decide) rfl (Nat.le_of_ble_eq_true rfl) rfl (fun G Γ ret => ?_)
  unfold f_X6_join at hf
  refine g_aload_n Γ (pc := 0) 0 dX6_join_0 rfl rfl ?_
  refine g_get Γ (pc := 1) (v := .int (μ b 5)) dX6_join_1 (C_town hC hb) fr_X6_24 rfl ?_
  refine g_bipush Γ (pc := 4) (v := 10) dX6_join_4 rfl ?_
  refine g_icmp_lt Γ (pc := 6) (tgt := 10) dX6_join_6 rfl hf (fun hf => ?_) (fun hf => ?_)
  · refine g_aload_n Γ (pc := 10) 0 dX6_join_10 rfl rfl ?_
    refine g_get Γ (pc := 11) (v := .ref (sq Y (b + 1))) dX6_join_11 (C_town hC hb) fr_X6_9 rfl ?_
    refine g_aload_n Γ (pc := 14) 0 dX6_join_14 rfl rfl ?_
    refine g_get Γ (pc := 15) (v := .int (μ b 5)) dX6_join_15 (C_town hC hb) fr_X6_24 rfl ?_
    refine g_iload_n Γ (pc := 18) 1 dX6_join_18 rfl rfl ?_
    refine g_iast Γ (pc := 19) dX6_join_19 (C_town1 hC hb) hf (fun m1 hf => ?_)
    refine g_aload_n Γ (pc := 20) 0 dX6_join_20 rfl rfl ?_
    refine g_get Γ (pc := 21) (v := .ref (sq Y (b + 2))) dX6_join_21 (C_town hC hb) fr_X6_15 rfl ?_
    refine g_aload_n Γ (pc := 24) 0 dX6_join_24 rfl rfl ?_
    refine g_get Γ (pc := 25) (v := .int (m1 b 5)) dX6_join_25 (C_town hC hb) fr_X6_24 rfl ?_
    refine g_iload_n Γ (pc := 28) 3 dX6_join_28 rfl rfl ?_
    refine g_iast Γ (pc := 29) dX6_join_29 (C_town2 hC hb) hf (fun m2 hf => ?_)
    refine g_aload_n Γ (pc := 30) 0 dX6_join_30 rfl rfl ?_
    refine g_get Γ (pc := 31) (v := .ref (sq Y (b + 3))) dX6_join_31 (C_town hC hb) fr_X6_18 rfl ?_
    refine g_aload_n Γ (pc := 34) 0 dX6_join_34 rfl rfl ?_
    refine g_get Γ (pc := 35) (v := .int (m2 b 5)) dX6_join_35 (C_town hC hb) fr_X6_24 rfl ?_
    refine g_iconst Γ (pc := 38) (v := 0) dX6_join_38 rfl ?_
    refine g_iast Γ (pc := 39) dX6_join_39 (C_town3 hC hb) hf (fun m3 hf => ?_)
    refine g_aload_n Γ (pc := 40) 0 dX6_join_40 rfl rfl ?_
    refine g_get Γ (pc := 41) (v := .ref (sq Y (b + 4))) dX6_join_41 (C_town hC hb) fr_X6_21 rfl ?_
    refine g_aload_n Γ (pc := 44) 0 dX6_join_44 rfl rfl ?_
    refine g_get Γ (pc := 45) (v := .int (m3 b 5)) dX6_join_45 (C_town hC hb) fr_X6_24 rfl ?_
    refine g_iconst Γ (pc := 48) (v := 0) dX6_join_48 rfl ?_
    refine g_iast Γ (pc := 49) dX6_join_49 (C_town4 hC hb) hf (fun m4 hf => ?_)
    refine g_aload_n Γ (pc := 50) 0 dX6_join_50 rfl rfl ?_
    refine g_dup Γ (pc := 51) dX6_join_51 rfl ?_
    refine g_get Γ (pc := 52) (v := .int (m4 b 6)) dX6_join_52 (C_town hC hb) fr_X6_28 rfl ?_
    refine g_iload_n Γ (pc := 55) 2 dX6_join_55 rfl rfl ?_
    refine g_aload_n Γ (pc := 56) 0 dX6_join_56 rfl rfl ?_
    refine g_get Γ (pc := 57) (v := .int (m4 b 5)) dX6_join_57 (C_town hC hb) fr_X6_24 rfl ?_
    refine g_ishl Γ (pc := 60) dX6_join_60 ?_
    refine g_ior Γ (pc := 61) dX6_join_61 ?_
    refine g_put Γ (pc := 62) dX6_join_62 (C_town hC hb) fw_X6_28 (Nat.le_of_ble_eq_true rfl) rfl ?_
    refine g_nmm hf (fun m5 hf => ?_)
    refine g_aload_n Γ (pc := 65) 0 dX6_join_65 rfl rfl ?_
    refine g_dup Γ (pc := 66) dX6_join_66 rfl ?_
    refine g_get Γ (pc := 67) (v := .int (m5 b 5)) dX6_join_67 (C_town hC hb) fr_X6_24 rfl ?_
    refine g_iconst Γ (pc := 70) (v := 1) dX6_join_70 rfl ?_
    refine g_iadd Γ (pc := 71) dX6_join_71 ?_
    refine g_put Γ (pc := 72) dX6_join_72 (C_town hC hb) fw_X6_24 (Nat.le_of_ble_eq_true rfl) rfl ?_
    refine g_nmm hf (fun m6 hf => ?_)
    exact rV ret dX6_join_75 hf
  · exact rV ret dX6_join_9 hf
def f_X6_mindOf (b : Nat) (a0 : Int32) (μ : Mem) : Option (Int32) :=
  some (((μ b 6) >>> (a0 &&& 31)) &&& 1)
set_option maxRecDepth 100000 in
set_option maxHeartbeats 4000000 in
theorem c_X6_mindOf {Y : SYS} (hC : IsC Y) {b : Nat} {a0 : Int32} {μ : Mem} {x : Int32} (hb : TownAt b) (hf : f_X6_mindOf b a0 μ = some x) : KC Y yX6_mindOf cX6_mindOf 2 (some .int) 0 [.ref (sq Y b), .int a0] μ (some (.int x)) μ := by
  refine KC.I RX6 [(0, .ref (sq Y b)), (1, .int a0)] (by decide) rfl (Nat.le_of_ble_eq_true rfl) rfl (fun G Γ ret => ?_)
  unfold f_X6_mindOf at hf
  refine g_aload_n Γ (pc := 0) 0 dX6_mindOf_0 rfl rfl ?_
  refine g_get Γ (pc := 1) (v := .int (μ b 6)) dX6_mindOf_1 (C_town hC hb) fr_X6_28 rfl ?_
  refine g_iload_n Γ (pc := 4) 1 dX6_mindOf_4 rfl rfl ?_
  refine g_ishr Γ (pc := 5) dX6_mindOf_5 ?_
  refine g_iconst Γ (pc := 6) (v := 1) dX6_mindOf_6 rfl ?_
  refine g_iand Γ (pc := 7) dX6_mindOf_7 ?_
  exact rIr ret dX6_mindOf_8 hf
def f_J6_bitCount_0f7a4 (a0 : Int32) : Option (Int32) :=
  nm (a0 - (((a0.toUInt32 >>> ((1 : Int32).toUInt32 &&& Int32.toUInt32 31)).toInt32) &&& 1431655765)) fun e1 =>
  nm ((e1 &&& 858993459) + (((e1.toUInt32 >>> ((2 : Int32).toUInt32 &&& Int32.toUInt32 31)).toInt32) &&& 858993459)) fun e2 =>
  nm ((e2 + ((e2.toUInt32 >>> ((4 : Int32).toUInt32 &&& Int32.toUInt32 31)).toInt32)) &&& 252645135) fun e3 =>
  nm (e3 + ((e3.toUInt32 >>> ((8 : Int32).toUInt32 &&& Int32.toUInt32 31)).toInt32)) fun e4 =>
  nm (e4 + ((e4.toUInt32 >>> ((16 : Int32).toUInt32 &&& Int32.toUInt32 31)).toInt32)) fun e5 =>
  some (e5 &&& 63)
set_option maxRecDepth 100000 in
set_option maxHeartbeats 4000000 in
theorem c_J6_bitCount_0f7a4 {Y : SYS} {a0 : Int32} {μ : Mem} {x : Int32} (hf : f_J6_bitCount_0f7a4 a0 = some x) : KC Y yJ6_bitCount_0f7a4 cJ6_bitCount_0f7a4 1 (some .int) 0 [.int a0] μ (some (.int x)) μ := by
  refine KC.I RJ6 [(0, .int a0)] (by decide) rfl (Nat.le_of_ble_eq_true rfl) rfl (fun G Γ ret => ?_)
  unfold f_J6_bitCount_0f7a4 at hf
  refine g_iload_n Γ (pc := 0) 0 dJ6_bitCount_0f7a4_0 rfl rfl ?_
  refine g_iload_n Γ (pc := 1) 0 dJ6_bitCount_0f7a4_1 rfl rfl ?_
  refine g_iconst Γ (pc := 2) (v := 1) dJ6_bitCount_0f7a4_2 rfl ?_
  refine g_iushr Γ (pc := 3) dJ6_bitCount_0f7a4_3 ?_
  refine g_ldcw Γ (pc := 4) dJ6_bitCount_0f7a4_4 kK_J6_265 ?_
  refine g_iand Γ (pc := 7) dJ6_bitCount_0f7a4_7 ?_
  refine g_isub Γ (pc := 8) dJ6_bitCount_0f7a4_8 ?_
  refine g_nmi hf (fun e1 hf => ?_)
  refine g_istore_n Γ (pc := 9) (lv' := [(0, .int e1)]) dJ6_bitCount_0f7a4_9 rfl (by decide) rfl ?_
  refine g_iload_n Γ (pc := 10) 0 dJ6_bitCount_0f7a4_10 rfl rfl ?_
  refine g_ldcw Γ (pc := 11) dJ6_bitCount_0f7a4_11 kK_J6_266 ?_
  refine g_iand Γ (pc := 14) dJ6_bitCount_0f7a4_14 ?_
  refine g_iload_n Γ (pc := 15) 0 dJ6_bitCount_0f7a4_15 rfl rfl ?_
  refine g_iconst Γ (pc := 16) (v := 2) dJ6_bitCount_0f7a4_16 rfl ?_
  refine g_iushr Γ (pc := 17) dJ6_bitCount_0f7a4_17 ?_
  refine g_ldcw Γ (pc := 18) dJ6_bitCount_0f7a4_18 kK_J6_266 ?_
  refine g_iand Γ (pc := 21) dJ6_bitCount_0f7a4_21 ?_
  refine g_iadd Γ (pc := 22) dJ6_bitCount_0f7a4_22 ?_
  refine g_nmi hf (fun e2 hf => ?_)
  refine g_istore_n Γ (pc := 23) (lv' := [(0, .int e2)]) dJ6_bitCount_0f7a4_23 rfl (by decide) rfl ?_
  refine g_iload_n Γ (pc := 24) 0 dJ6_bitCount_0f7a4_24 rfl rfl ?_
  refine g_iload_n Γ (pc := 25) 0 dJ6_bitCount_0f7a4_25 rfl rfl ?_
  refine g_iconst Γ (pc := 26) (v := 4) dJ6_bitCount_0f7a4_26 rfl ?_
  refine g_iushr Γ (pc := 27) dJ6_bitCount_0f7a4_27 ?_
  refine g_iadd Γ (pc := 28) dJ6_bitCount_0f7a4_28 ?_
  refine g_ldcw Γ (pc := 29) dJ6_bitCount_0f7a4_29 kK_J6_267 ?_
  refine g_iand Γ (pc := 32) dJ6_bitCount_0f7a4_32 ?_
  refine g_nmi hf (fun e3 hf => ?_)
  refine g_istore_n Γ (pc := 33) (lv' := [(0, .int e3)]) dJ6_bitCount_0f7a4_33 rfl (by decide) rfl ?_
  refine g_iload_n Γ (pc := 34) 0 dJ6_bitCount_0f7a4_34 rfl rfl ?_
  refine g_iload_n Γ (pc := 35) 0 dJ6_bitCount_0f7a4_35 rfl rfl ?_
  refine g_bipush Γ (pc := 36) (v := 8) dJ6_bitCount_0f7a4_36 rfl ?_
  refine g_iushr Γ (pc := 38) dJ6_bitCount_0f7a4_38 ?_
  refine g_iadd Γ (pc := 39) dJ6_bitCount_0f7a4_39 ?_
  refine g_nmi hf (fun e4 hf => ?_)
  refine g_istore_n Γ (pc := 40) (lv' := [(0, .int e4)]) dJ6_bitCount_0f7a4_40 rfl (by decide) rfl ?_
  refine g_iload_n Γ (pc := 41) 0 dJ6_bitCount_0f7a4_41 rfl rfl ?_
  refine g_iload_n Γ (pc := 42) 0 dJ6_bitCount_0f7a4_42 rfl rfl ?_
  refine g_bipush Γ (pc := 43) (v := 16) dJ6_bitCount_0f7a4_43 rfl ?_
  refine g_iushr Γ (pc := 45) dJ6_bitCount_0f7a4_45 ?_
  refine g_iadd Γ (pc := 46) dJ6_bitCount_0f7a4_46 ?_
  refine g_nmi hf (fun e5 hf => ?_)
  refine g_istore_n Γ (pc := 47) (lv' := [(0, .int e5)]) dJ6_bitCount_0f7a4_47 rfl (by decide) rfl ?_
  refine g_iload_n Γ (pc := 48) 0 dJ6_bitCount_0f7a4_48 rfl rfl ?_
  refine g_bipush Γ (pc := 49) (v := 63) dJ6_bitCount_0f7a4_49 rfl ?_
  refine g_iand Γ (pc := 51) dJ6_bitCount_0f7a4_51 ?_
  exact rIr ret dJ6_bitCount_0f7a4_52 hf
def f_X6_offAmong (a0 : Int32) (a1 : Int32) : Option (Int32) :=
  bn1 (f_J6_bitCount_0f7a4 (a0 &&& a1)) fun v1 =>
  bn1 (f_J6_bitCount_0f7a4 a0) fun v2 =>
  nm (if 0 ≤ ((2 * v1) - v2) then ((2 * v1) - v2) else 0 - ((2 * v1) - v2)) fun e3 =>
  some e3
set_option maxRecDepth 100000 in
set_option maxHeartbeats 4000000 in
theorem c_X6_offAmong {Y : SYS} {a0 : Int32} {a1 : Int32} {μ : Mem} {x : Int32} (hf : f_X6_offAmong a0 a1 = some x) : KC Y yX6_offAmong cX6_offAmong 2 (some .int) 1 [.int a0, .int a1] μ (some (.int x)) μ := by
  refine KC.I RX6 [(0, .int a0), (1, .int a1)] (by decide) rfl (Nat.le_of_ble_eq_true rfl) rfl (fun G Γ ret => ?_)
  unfold f_X6_offAmong at hf
  refine g_iconst Γ (pc := 0) (v := 2) dX6_offAmong_0 rfl ?_
  refine g_iload_n Γ (pc := 1) 0 dX6_offAmong_1 rfl rfl ?_
  refine g_iload_n Γ (pc := 2) 1 dX6_offAmong_2 rfl rfl ?_
  refine g_iand Γ (pc := 3) dX6_offAmong_3 ?_
  obtain ⟨v1, h1, hf⟩ := bn1_i hf
  refine g_callSI Γ (pc := 4) (as := [.int (a0 &&& a1)]) (st := [.int 2]) dX6_offAmong_4 (c_J6_bitCount_0f7a4 h1) mi_J6_bitCount_0f7a4 ms_J6_bitCount_0f7a4 kM_X6_65 rfl ⟨Nat.le_of_ble_eq_true rfl, Nat.le_of_ble_eq_true rfl⟩ rfl (Nat.le_of_ble_eq_true rfl) ?_
  refine g_imul Γ (pc := 7) dX6_offAmong_7 ?_
  refine g_iload_n Γ (pc := 8) 0 dX6_offAmong_8 rfl rfl ?_
  obtain ⟨v2, h1, hf⟩ := bn1_i hf
  refine g_callSI Γ (pc := 9) (as := [.int a0]) (st := [.int (2 * v1)]) dX6_offAmong_9 (c_J6_bitCount_0f7a4 h1) mi_J6_bitCount_0f7a4 ms_J6_bitCount_0f7a4 kM_X6_65 rfl ⟨Nat.le_of_ble_eq_true rfl, Nat.le_of_ble_eq_true rfl⟩ rfl (Nat.le_of_ble_eq_true rfl) ?_
  refine g_isub Γ (pc := 12) dX6_offAmong_12 ?_
  refine g_abs Γ (pc := 13) dX6_offAmong_13 kM_X6_71 kS_Math_abs kI_J9 kC_Math_abs (Nat.le_of_ble_eq_true rfl) (Nat.le_of_ble_eq_true rfl) ?_
  refine g_nmi hf (fun e3 hf => ?_)
  exact rIr ret dX6_offAmong_16 hf
def f_X6_off (b : Nat) (a0 : Int32) (a1 : Int32) (μ : Mem) : Option (Int32) :=
  bn1 (ldM (μ (b + 4)) 10 a0) fun v1 =>
  bn1 (f_X6_offAmong v1 a1) fun v2 =>
  some v2
set_option maxRecDepth 100000 in
set_option maxHeartbeats 4000000 in
theorem c_X6_off {Y : SYS} (hC : IsC Y) {b : Nat} {a0 : Int32} {a1 : Int32} {μ : Mem} {x : Int32} (hb : TownAt b) (hf : f_X6_off b a0 a1 μ = some x) : KC Y yX6_off cX6_off 3 (some .int) 2 [.ref (sq Y b), .int a0, .int a1] μ (some (.int x)) μ := by
  refine KC.I RX6 [(0, .ref (sq Y b)), (1, .int a0), (2, .int a1)] (by decide) rfl (Nat.le_of_ble_eq_true rfl) rfl (fun G Γ ret => ?_)
  unfold f_X6_off at hf
  refine g_aload_n Γ (pc := 0) 0 dX6_off_0 rfl rfl ?_
  refine g_get Γ (pc := 1) (v := .ref (sq Y (b + 4))) dX6_off_1 (C_town hC hb) fr_X6_21 rfl ?_
  refine g_iload_n Γ (pc := 4) 1 dX6_off_4 rfl rfl ?_
  refine g_iald Γ (pc := 5) dX6_off_5 (C_town4 hC hb) hf (fun v1 hf => ?_)
  refine g_iload_n Γ (pc := 6) 2 dX6_off_6 rfl rfl ?_
  obtain ⟨v2, h1, hf⟩ := bn1_i hf
  refine g_callSI Γ (pc := 7) (as := [.int v1, .int a1]) (st := []) dX6_off_7 (c_X6_offAmong h1) mi_X6_offAmong ms_X6_offAmong kM_X6_76 rfl ⟨Nat.le_of_ble_eq_true rfl, Nat.le_of_ble_eq_true rfl⟩ rfl (Nat.le_of_ble_eq_true rfl) ?_
  exact rIr ret dX6_off_10 hf
def f_X6_offOf (b : Nat) (a0 : Int32) (μ : Mem) : Option (Int32) :=
  bn1 (f_X6_off b a0 (μ b 6) μ) fun v1 =>
  some v1
set_option maxRecDepth 100000 in
set_option maxHeartbeats 4000000 in
theorem c_X6_offOf {Y : SYS} (hC : IsC Y) {b : Nat} {a0 : Int32} {μ : Mem} {x : Int32} (hb : TownAt b) (hf : f_X6_offOf b a0 μ = some x) : KC Y yX6_offOf cX6_offOf 2 (some .int) 3 [.ref (sq Y b), .int a0] μ (some (.int x)) μ := by
  refine KC.I RX6 [(0, .ref (sq Y b)), (1, .int a0)] (by decide) rfl (Nat.le_of_ble_eq_true rfl) rfl (fun G Γ ret => ?_)
  unfold f_X6_offOf at hf
  refine g_aload_n Γ (pc := 0) 0 dX6_offOf_0 rfl rfl ?_
  refine g_iload_n Γ (pc := 1) 1 dX6_offOf_1 rfl rfl ?_
  refine g_aload_n Γ (pc := 2) 0 dX6_offOf_2 rfl rfl ?_
  refine g_get Γ (pc := 3) (v := .int (μ b 6)) dX6_offOf_3 (C_town hC hb) fr_X6_28 rfl ?_
  obtain ⟨v1, h1, hf⟩ := bn1_i hf
  refine g_callVI Γ (pc := 6) (as := [.int a0, .int (μ b 6)]) (st := []) dX6_offOf_6 (c_X6_off hC hb h1) (C_town hC hb) rfl mi_X6_off mv_X6_off kM_X6_80 rfl ⟨Nat.le_of_ble_eq_true rfl, Nat.le_of_ble_eq_true rfl⟩ rfl (Nat.le_of_ble_eq_true rfl) ?_
  exact rIr ret dX6_offOf_9 hf
def f_X0_counts_K9_23 (y3_2 : Int32) : Option (Int32) :=
  some y3_2
def f_X0_counts_K9_31  : Option (Int32) :=
  some (-1)
def f_X0_counts_L9 (a0 : Int32) (μ : Mem) (x3_3 : Int32) : Option (Int32 ⊕ (Int32 ⊕ Unit)) :=
  if x3_3 < 0 then
    some (.inr (.inr ()))
  else
    bn1 (ldM (μ 2) 14 x3_3) fun v4 =>
    if v4 = a0 then
      some (.inr (.inl x3_3))
    else
      some (.inl (x3_3 + (-1)))
def f_X0_counts (a0 : Int32) (a1 : Int32) (μ : Mem) : Option (Int32) :=
  nm (if 14 < a1 then 14 else a1) fun e1 =>
  bn1 (lpF (fun v => f_X0_counts_L9 a0 μ v) 4000 (e1 - 1)) (fun x => cs2 x (fun y => f_X0_counts_K9_23 y) (fun x0 => f_X0_counts_K9_31))
set_option maxRecDepth 100000 in
set_option maxHeartbeats 4000000 in
theorem c_X0_counts {Y : SYS} (hC : IsC Y) {a0 : Int32} {a1 : Int32} {μ : Mem} {x : Int32} (hf : f_X0_counts a0 a1 μ = some x) : KC Y yX0_counts cX0_counts 4 (some .int) 1 [.ref (sq Y 1), .int a0, .int a1] μ (some (.int x)) μ := by
  refine KC.I RX0 [(0, .ref (sq Y 1)), (1, .int a0), (2, .int a1)] (by decide) rfl (Nat.le_of_ble_eq_true rfl) rfl (fun G Γ ret => ?_)
  unfold f_X0_counts at hf
  refine g_iload_n Γ (pc := 0) 2 dX0_counts_0 rfl rfl ?_
  refine g_bipush Γ (pc := 1) (v := 14) dX0_counts_1 rfl ?_
  refine g_min Γ (pc := 3) dX0_counts_3 kM_X0_48 kS_Math_min kI_J9 kC_Math_min (Nat.le_of_ble_eq_true rfl) (Nat.le_of_ble_eq_true rfl) ?_
  refine g_nmi hf (fun e1 hf => ?_)
  refine g_iconst Γ (pc := 6) (v := 1) dX0_counts_6 rfl ?_
  refine g_isub Γ (pc := 7) dX0_counts_7 ?_
  refine g_istore_n Γ (pc := 8) (lv' := [(3, .int (e1 - 1)), (0, .ref (sq Y 1)), (1, .int a0), (2, .int a1)]) dX0_counts_8 rfl (by decide) rfl ?_
  have K_9_23 : ∀ (y3_2 : Int32), f_X0_counts_K9_23 y3_2 = some x → G 23 [(3, .int y3_2)] [] μ := by
    intro y3_2 hf
    unfold f_X0_counts_K9_23 at hf
    refine g_iload_n Γ (pc := 23) 0 dX0_counts_23 rfl rfl ?_
    exact rIr ret dX0_counts_24 hf
  have K_9_31 : f_X0_counts_K9_31 = some x → G 31 [] [] μ := by
    intro hf
    unfold f_X0_counts_K9_31 at hf
    refine g_iconst Γ (pc := 31) (v := (-1)) dX0_counts_31 rfl ?_
    exact rIr ret dX0_counts_32 hf
  refine g_sub Γ [1, 2, 0] rfl ?_
  refine lpF_s (P := fun (v : Int32) => G 9 [(0, .ref (sq Y 1)), (1, .int a0), (3, .int v)] [] μ) hf (fun v z1 hf kI1 kX1 => ?_)
  obtain ⟨x3_3, rfl⟩ : ∃ w, w = v := ⟨v, rfl⟩
  replace hf : f_X0_counts_L9 a0 μ x3_3 = some z1 := hf
  show G 9 [(0, .ref (sq Y 1)), (1, .int a0), (3, .int x3_3)] [] μ
  unfold f_X0_counts_L9 at hf
  refine g_iload_n Γ (pc := 9) 2 dX0_counts_9 rfl rfl ?_
  refine g_if_lt Γ (pc := 10) (tgt := 31) dX0_counts_10 rfl hf (fun hf => ?_) (fun hf => ?_)
  · refine g_sub Γ [] rfl ?_
    exact K_9_31  (kX1 (.inr ()) (Option.some.inj hf).symm)
  · refine g_aload_n Γ (pc := 13) 0 dX0_counts_13 rfl rfl ?_
    refine g_get Γ (pc := 14) (v := .ref (sq Y 2)) dX0_counts_14 (C_book hC) fr_X0_9 rfl ?_
    refine g_iload_n Γ (pc := 17) 2 dX0_counts_17 rfl rfl ?_
    refine g_iald Γ (pc := 18) dX0_counts_18 (C_2 hC) hf (fun v4 hf => ?_)
    refine g_iload_n Γ (pc := 19) 1 dX0_counts_19 rfl rfl ?_
    refine g_icmp_ne Γ (pc := 20) (tgt := 25) dX0_counts_20 rfl hf (fun hf => ?_) (fun hf => ?_)
    · refine g_iinc Γ (pc := 25) (v := x3_3 + (-1)) (lv' := [(3, .int (x3_3 + (-1))), (0, .ref (sq Y 1)), (1, .int a0)]) 2 dX0_counts_25 rfl rfl (by decide) rfl ?_
      refine g_goto Γ (pc := 28) (tgt := 9) dX0_counts_28 rfl ?_
      refine g_sub Γ [1, 2, 0] rfl ?_
      exact kI1 (x3_3 + (-1)) (Option.some.inj hf).symm
    · refine g_sub Γ [2] rfl ?_
      exact K_9_23 x3_3 (kX1 (.inl x3_3) (Option.some.inj hf).symm)
def f_X0_leaf (a0 : Int32) (a1 : Int32) (a2 : Int32) (a3 : Int32) : Option (Int32) :=
  if a0 = (-3) then
    some a3
  else
    if a0 = (-2) then
      some a2
    else
      if a0 = (-1) then
        some a1
      else
        some a0
set_option maxRecDepth 100000 in
set_option maxHeartbeats 4000000 in
theorem c_X0_leaf {Y : SYS} {a0 : Int32} {a1 : Int32} {a2 : Int32} {a3 : Int32} {μ : Mem} {x : Int32} (hf : f_X0_leaf a0 a1 a2 a3 = some x) : KC Y yX0_leaf cX0_leaf 4 (some .int) 0 [.int a0, .int a1, .int a2, .int a3] μ (some (.int x)) μ := by
  refine KC.I RX0 [(0, .int a0), (1, .int a1), (2, .int a2), (3, .int a3)] (by decide) rfl (Nat.le_of_ble_eq_true rfl) rfl (fun G Γ ret => ?_)
  unfold f_X0_leaf at hf
  refine g_iload_n Γ (pc := 0) 0 dX0_leaf_0 rfl rfl ?_
  by_cases h1_0 : a0 = (-3)
  · replace hf := ite_t h1_0 hf
    refine g_tin Γ (pc := 1) (tgt := 32) (-3) dX0_leaf_1 h1_0 (by decide) (by decide) rfl rfl ?_
    refine g_iload_n Γ (pc := 32) 3 dX0_leaf_32 rfl rfl ?_
    exact rIr ret dX0_leaf_33 hf
  · replace hf := ite_f h1_0 hf
    by_cases h1_1 : a0 = (-2)
    · replace hf := ite_t h1_1 hf
      refine g_tin Γ (pc := 1) (tgt := 30) (-2) dX0_leaf_1 h1_1 (by decide) (by decide) rfl rfl ?_
      refine g_iload_n Γ (pc := 30) 2 dX0_leaf_30 rfl rfl ?_
      exact rIr ret dX0_leaf_31 hf
    · replace hf := ite_f h1_1 hf
      by_cases h1_2 : a0 = (-1)
      · replace hf := ite_t h1_2 hf
        refine g_tin Γ (pc := 1) (tgt := 28) (-1) dX0_leaf_1 h1_2 (by decide) (by decide) rfl rfl ?_
        refine g_iload_n Γ (pc := 28) 1 dX0_leaf_28 rfl rfl ?_
        exact rIr ret dX0_leaf_29 hf
      · replace hf := ite_f h1_2 hf
        refine g_tableOut Γ (pc := 1) (tgt := 34) dX0_leaf_1 (by have e0 := ne_ti (k := (-3)) rfl h1_0; have e1 := ne_ti (k := (-2)) rfl h1_1; have e2 := ne_ti (k := (-1)) rfl h1_2; omega) rfl ?_
        refine g_iload_n Γ (pc := 34) 0 dX0_leaf_34 rfl rfl ?_
        exact rIr ret dX0_leaf_35 hf
def f_X0_joined (a0 : Int32) (a1 : Int32) (a2 : Int32) : Option (Int32) :=
  if a0 = 38 then
    if a1 = 0 then
      some 0
    else
      if a2 = 0 then
        some 0
      else
        some 1
  else
    if a0 = 42 then
      some (a1 * a2)
    else
      if a0 = 43 then
        some (a1 + a2)
      else
        if a0 = 45 then
          some (a1 - a2)
        else
          if a0 = 60 then
            if a2 ≤ a1 then
              some 0
            else
              some 1
          else
            if a0 = 61 then
              if a1 = a2 then
                some 1
              else
                some 0
            else
              if a0 = 62 then
                if a1 ≤ a2 then
                  some 0
                else
                  some 1
              else
                if a0 = 124 then
                  if a1 = 0 then
                    if a2 = 0 then
                      some 0
                    else
                      some 1
                  else
                    some 1
                else
                  if a2 = 0 then
                    some 0
                  else
                    bn1 (dvM a1 a2) fun v1 =>
                    some v1
set_option maxRecDepth 100000 in
set_option maxHeartbeats 4000000 in
theorem c_X0_joined {Y : SYS} {a0 : Int32} {a1 : Int32} {a2 : Int32} {μ : Mem} {x : Int32} (hf : f_X0_joined a0 a1 a2 = some x) : KC Y yX0_joined cX0_joined 3 (some .int) 0 [.int a0, .int a1, .int a2] μ (some (.int x)) μ := by
  refine KC.I RX0 [(0, .int a0), (1, .int a1), (2, .int a2)] (by decide) rfl (Nat.le_of_ble_eq_true rfl) rfl (fun G Γ ret => ?_)
  unfold f_X0_joined at hf
  refine g_iload_n Γ (pc := 0) 0 dX0_joined_0 rfl rfl ?_
  by_cases h1_0 : a0 = 38
  · replace hf := ite_t h1_0 hf
    refine g_lin Γ (pc := 1) (off := 89) (tgt := 90) 38 dX0_joined_1 h1_0 (by decide) rfl rfl ?_
    refine g_iload_n Γ (pc := 90) 1 dX0_joined_90 rfl rfl ?_
    refine g_if_eq Γ (pc := 91) (tgt := 102) dX0_joined_91 rfl hf (fun hf => ?_) (fun hf => ?_)
    · refine g_iconst Γ (pc := 102) (v := 0) dX0_joined_102 rfl ?_
      exact rIr ret dX0_joined_103 hf
    · refine g_iload_n Γ (pc := 94) 2 dX0_joined_94 rfl rfl ?_
      refine g_if_eq Γ (pc := 95) (tgt := 102) dX0_joined_95 rfl hf (fun hf => ?_) (fun hf => ?_)
      · refine g_iconst Γ (pc := 102) (v := 0) dX0_joined_102 rfl ?_
        exact rIr ret dX0_joined_103 hf
      · refine g_iconst Γ (pc := 98) (v := 1) dX0_joined_98 rfl ?_
        refine g_goto Γ (pc := 99) (tgt := 103) dX0_joined_99 rfl ?_
        exact rIr ret dX0_joined_103 hf
  · replace hf := ite_f h1_0 hf
    by_cases h1_1 : a0 = 42
    · replace hf := ite_t h1_1 hf
      refine g_lin Γ (pc := 1) (off := 144) (tgt := 145) 42 dX0_joined_1 h1_1 (by decide) rfl rfl ?_
      refine g_iload_n Γ (pc := 145) 1 dX0_joined_145 rfl rfl ?_
      refine g_iload_n Γ (pc := 146) 2 dX0_joined_146 rfl rfl ?_
      refine g_imul Γ (pc := 147) dX0_joined_147 ?_
      exact rIr ret dX0_joined_148 hf
    · replace hf := ite_f h1_1 hf
      by_cases h1_2 : a0 = 43
      · replace hf := ite_t h1_2 hf
        refine g_lin Γ (pc := 1) (off := 136) (tgt := 137) 43 dX0_joined_1 h1_2 (by decide) rfl rfl ?_
        refine g_iload_n Γ (pc := 137) 1 dX0_joined_137 rfl rfl ?_
        refine g_iload_n Γ (pc := 138) 2 dX0_joined_138 rfl rfl ?_
        refine g_iadd Γ (pc := 139) dX0_joined_139 ?_
        exact rIr ret dX0_joined_140 hf
      · replace hf := ite_f h1_2 hf
        by_cases h1_3 : a0 = 45
        · replace hf := ite_t h1_3 hf
          refine g_lin Γ (pc := 1) (off := 140) (tgt := 141) 45 dX0_joined_1 h1_3 (by decide) rfl rfl ?_
          refine g_iload_n Γ (pc := 141) 1 dX0_joined_141 rfl rfl ?_
          refine g_iload_n Γ (pc := 142) 2 dX0_joined_142 rfl rfl ?_
          refine g_isub Γ (pc := 143) dX0_joined_143 ?_
          exact rIr ret dX0_joined_144 hf
        · replace hf := ite_f h1_3 hf
          by_cases h1_4 : a0 = 60
          · replace hf := ite_t h1_4 hf
            refine g_lin Γ (pc := 1) (off := 103) (tgt := 104) 60 dX0_joined_1 h1_4 (by decide) rfl rfl ?_
            refine g_iload_n Γ (pc := 104) 1 dX0_joined_104 rfl rfl ?_
            refine g_iload_n Γ (pc := 105) 2 dX0_joined_105 rfl rfl ?_
            refine g_icmp_ge Γ (pc := 106) (tgt := 113) dX0_joined_106 rfl hf (fun hf => ?_) (fun hf => ?_)
            · refine g_iconst Γ (pc := 113) (v := 0) dX0_joined_113 rfl ?_
              exact rIr ret dX0_joined_114 hf
            · refine g_iconst Γ (pc := 109) (v := 1) dX0_joined_109 rfl ?_
              refine g_goto Γ (pc := 110) (tgt := 114) dX0_joined_110 rfl ?_
              exact rIr ret dX0_joined_114 hf
          · replace hf := ite_f h1_4 hf
            by_cases h1_5 : a0 = 61
            · replace hf := ite_t h1_5 hf
              refine g_lin Γ (pc := 1) (off := 114) (tgt := 115) 61 dX0_joined_1 h1_5 (by decide) rfl rfl ?_
              refine g_iload_n Γ (pc := 115) 1 dX0_joined_115 rfl rfl ?_
              refine g_iload_n Γ (pc := 116) 2 dX0_joined_116 rfl rfl ?_
              refine g_icmp_ne Γ (pc := 117) (tgt := 124) dX0_joined_117 rfl hf (fun hf => ?_) (fun hf => ?_)
              · refine g_iconst Γ (pc := 124) (v := 0) dX0_joined_124 rfl ?_
                exact rIr ret dX0_joined_125 hf
              · refine g_iconst Γ (pc := 120) (v := 1) dX0_joined_120 rfl ?_
                refine g_goto Γ (pc := 121) (tgt := 125) dX0_joined_121 rfl ?_
                exact rIr ret dX0_joined_125 hf
            · replace hf := ite_f h1_5 hf
              by_cases h1_6 : a0 = 62
              · replace hf := ite_t h1_6 hf
                refine g_lin Γ (pc := 1) (off := 125) (tgt := 126) 62 dX0_joined_1 h1_6 (by decide) rfl rfl ?_
                refine g_iload_n Γ (pc := 126) 1 dX0_joined_126 rfl rfl ?_
                refine g_iload_n Γ (pc := 127) 2 dX0_joined_127 rfl rfl ?_
                refine g_icmp_le Γ (pc := 128) (tgt := 135) dX0_joined_128 rfl hf (fun hf => ?_) (fun hf => ?_)
                · refine g_iconst Γ (pc := 135) (v := 0) dX0_joined_135 rfl ?_
                  exact rIr ret dX0_joined_136 hf
                · refine g_iconst Γ (pc := 131) (v := 1) dX0_joined_131 rfl ?_
                  refine g_goto Γ (pc := 132) (tgt := 136) dX0_joined_132 rfl ?_
                  exact rIr ret dX0_joined_136 hf
              · replace hf := ite_f h1_6 hf
                by_cases h1_7 : a0 = 124
                · replace hf := ite_t h1_7 hf
                  refine g_lin Γ (pc := 1) (off := 75) (tgt := 76) 124 dX0_joined_1 h1_7 (by decide) rfl rfl ?_
                  refine g_iload_n Γ (pc := 76) 1 dX0_joined_76 rfl rfl ?_
                  refine g_if_ne Γ (pc := 77) (tgt := 84) dX0_joined_77 rfl hf (fun hf => ?_) (fun hf => ?_)
                  · refine g_iconst Γ (pc := 84) (v := 1) dX0_joined_84 rfl ?_
                    refine g_goto Γ (pc := 85) (tgt := 89) dX0_joined_85 rfl ?_
                    exact rIr ret dX0_joined_89 hf
                  · refine g_iload_n Γ (pc := 80) 2 dX0_joined_80 rfl rfl ?_
                    refine g_if_eq Γ (pc := 81) (tgt := 88) dX0_joined_81 rfl hf (fun hf => ?_) (fun hf => ?_)
                    · refine g_iconst Γ (pc := 88) (v := 0) dX0_joined_88 rfl ?_
                      exact rIr ret dX0_joined_89 hf
                    · refine g_iconst Γ (pc := 84) (v := 1) dX0_joined_84 rfl ?_
                      refine g_goto Γ (pc := 85) (tgt := 89) dX0_joined_85 rfl ?_
                      exact rIr ret dX0_joined_89 hf
                · replace hf := ite_f h1_7 hf
                  refine g_lookup Γ (pc := 1) (off := 148) (tgt := 149) dX0_joined_1 (by decide) (by show Op.lookupswitch.offset [(38, 89), (42, 144), (43, 136), (45, 140), (60, 103), (61, 114), (62, 125), (124, 75)] 148 _ = _; rw [Op.lookupswitch.offset_cons, if_neg (Ne.symm (ne_ti (k := 38) rfl h1_0)), Op.lookupswitch.offset_cons, if_neg (Ne.symm (ne_ti (k := 42) rfl h1_1)), Op.lookupswitch.offset_cons, if_neg (Ne.symm (ne_ti (k := 43) rfl h1_2)), Op.lookupswitch.offset_cons, if_neg (Ne.symm (ne_ti (k := 45) rfl h1_3)), Op.lookupswitch.offset_cons, if_neg (Ne.symm (ne_ti (k := 60) rfl h1_4)), Op.lookupswitch.offset_cons, if_neg (Ne.symm (ne_ti (k := 61) rfl h1_5)), Op.lookupswitch.offset_cons, if_neg (Ne.symm (ne_ti (k := 62) rfl h1_6)), Op.lookupswitch.offset_cons, if_neg (Ne.symm (ne_ti (k := 124) rfl h1_7))]; rfl) rfl ?_
                  refine g_iload_n Γ (pc := 149) 2 dX0_joined_149 rfl rfl ?_
                  refine g_if_ne Γ (pc := 150) (tgt := 157) dX0_joined_150 rfl hf (fun hf => ?_) (fun hf => ?_)
                  · refine g_iload_n Γ (pc := 157) 1 dX0_joined_157 rfl rfl ?_
                    refine g_iload_n Γ (pc := 158) 2 dX0_joined_158 rfl rfl ?_
                    refine g_idiv Γ (pc := 159) dX0_joined_159 hf (fun v1 hf => ?_)
                    exact rIr ret dX0_joined_160 hf
                  · refine g_iconst Γ (pc := 153) (v := 0) dX0_joined_153 rfl ?_
                    refine g_goto Γ (pc := 154) (tgt := 160) dX0_joined_154 rfl ?_
                    exact rIr ret dX0_joined_160 hf
def f_X0_gives_K26_185 (m2 : Mem) : Option (Int32 × Mem) :=
  bn1 (ldM (m2 6) 96 0) fun v3 =>
  some (v3, m2)
def f_X0_gives_J179 (x7_5 : Int32) (x6_9 : Int32) (m10 : Mem) : Option ((Int32 × Int32 × Mem) ⊕ Mem) :=
  some (.inl (x6_9, x7_5 + 1, m10))
def f_X0_gives_J135 (x6_4 : Int32) (x7_5 : Int32) (m6 : Mem) (s16 : Int32) : Option ((Int32 × Int32 × Mem) ⊕ Mem) :=
  bn1 (stM m6 6 96 (x6_4 - 1) s16) fun m17 =>
  f_X0_gives_J179 x7_5 x6_4 m17
def f_X0_gives_J98 (x6_4 : Int32) (x7_5 : Int32) (m6 : Mem) (v8 : Int32) : Option ((Int32 × Int32 × Mem) ⊕ Mem) :=
  if v8 = (-4) then
    if x6_4 ≤ 0 then
      f_X0_gives_J179 x7_5 x6_4 m6
    else
      bn1 (ldM (m6 6) 96 (x6_4 - 1)) fun v15 =>
      if v15 = 0 then
        f_X0_gives_J135 x6_4 x7_5 m6 1
      else
        f_X0_gives_J135 x6_4 x7_5 m6 0
  else
    f_X0_gives_J179 x7_5 x6_4 m6
def f_X0_gives_L26 (a0 : Int32) (a1 : Int32) (a2 : Int32) (a3 : Int32) (j1 : Nat) (x6_4 : Int32) (x7_5 : Int32) (m6 : Mem) : Option ((Int32 × Int32 × Mem) ⊕ Mem) :=
  bn1 (ldM (m6 4) 14 a0) fun v7 =>
  if v7 ≤ x7_5 then
    some (.inr m6)
  else
    if 96 ≤ x7_5 then
      some (.inr m6)
    else
      bn1 (ldM (m6 (7 + j1)) 96 x7_5) fun v8 =>
      if v8 < (-4) then
        if x6_4 ≤ 1 then
          f_X0_gives_J179 x7_5 x6_4 m6
        else
          bn1 (ldM (m6 6) 96 ((x6_4 + (-1)) - 1)) fun v11 =>
          bn1 (ldM (m6 6) 96 (x6_4 + (-1))) fun v12 =>
          bn1 (f_X0_joined (-v8) v11 v12) fun v13 =>
          bn1 (stM m6 6 96 ((x6_4 + (-1)) - 1) v13) fun m14 =>
          f_X0_gives_J179 x7_5 (x6_4 + (-1)) m14
      else
        if v8 = (-4) then
          f_X0_gives_J98 x6_4 x7_5 m6 v8
        else
          if 96 ≤ x6_4 then
            f_X0_gives_J98 x6_4 x7_5 m6 v8
          else
            bn1 (f_X0_leaf v8 a1 a2 a3) fun v18 =>
            bn1 (stM m6 6 96 x6_4 v18) fun m19 =>
            f_X0_gives_J179 x7_5 (x6_4 + 1) m19
def f_X0_gives (a0 : Int32) (a1 : Int32) (a2 : Int32) (a3 : Int32) (μ : Mem) : Option (Int32 × Mem) :=
  if a0 < 0 then
    some (0, μ)
  else
    if a0 < 14 then
      bn1 (rdM 14 a0) fun j1 =>
      bn1 (lpF (fun v => f_X0_gives_L26 a0 a1 a2 a3 j1 v.1 v.2.1 v.2.2) 4000 (0, 0, μ)) (fun x => f_X0_gives_K26_185 x)
    else
      some (0, μ)
set_option maxRecDepth 100000 in
set_option maxHeartbeats 4000000 in
theorem c_X0_gives {Y : SYS} (hC : IsC Y) {a0 : Int32} {a1 : Int32} {a2 : Int32} {a3 : Int32} {μ : Mem} {x : Int32} {m : Mem} (hf : f_X0_gives a0 a1 a2 a3 μ = some (x, m)) : KC Y yX0_gives cX0_gives 9 (some .int) 1 [.ref (sq Y 1), .int a0, .int a1, .int a2, .int a3] μ (some (.int x)) m := by
  refine KC.I RX0 [(0, .ref (sq Y 1)), (1, .int a0), (2, .int a1), (3, .int a2), (4, .int a3)] (by decide) rfl (Nat.le_of_ble_eq_true rfl) rfl (fun G Γ ret => ?_)
  unfold f_X0_gives at hf
  refine g_iload_n Γ (pc := 0) 1 dX0_gives_0 rfl rfl ?_
  refine g_if_lt Γ (pc := 1) (tgt := 10) dX0_gives_1 rfl hf (fun hf => ?_) (fun hf => ?_)
  · refine g_iconst Γ (pc := 10) (v := 0) dX0_gives_10 rfl ?_
    exact rI ret dX0_gives_11 hf
  · refine g_iload_n Γ (pc := 4) 1 dX0_gives_4 rfl rfl ?_
    refine g_bipush Γ (pc := 5) (v := 14) dX0_gives_5 rfl ?_
    refine g_icmp_lt Γ (pc := 7) (tgt := 12) dX0_gives_7 rfl hf (fun hf => ?_) (fun hf => ?_)
    · refine g_aload_n Γ (pc := 12) 0 dX0_gives_12 rfl rfl ?_
      refine g_get Γ (pc := 13) (v := .ref (sq Y 5)) dX0_gives_13 (C_book hC) fr_X0_23 rfl ?_
      refine g_iload_n Γ (pc := 16) 1 dX0_gives_16 rfl rfl ?_
      refine g_aaldT Γ (pc := 17) dX0_gives_17 (C_steps hC) hf (fun j1 hj1 hf => ?_)
      refine g_astore Γ (pc := 18) (lv' := [(5, .ref (sq Y (7 + j1))), (0, .ref (sq Y 1)), (1, .int a0), (2, .int a1), (3, .int a2), (4, .int a3)]) dX0_gives_18 (by decide) rfl ?_
      refine g_iconst Γ (pc := 20) (v := 0) dX0_gives_20 rfl ?_
      refine g_istore Γ (pc := 21) (lv' := [(6, .int 0), (5, .ref (sq Y (7 + j1))), (0, .ref (sq Y 1)), (1, .int a0), (2, .int a1), (3, .int a2), (4, .int a3)]) dX0_gives_21 (by decide) rfl ?_
      refine g_iconst Γ (pc := 23) (v := 0) dX0_gives_23 rfl ?_
      refine g_istore Γ (pc := 24) (lv' := [(7, .int 0), (6, .int 0), (5, .ref (sq Y (7 + j1))), (0, .ref (sq Y 1)), (1, .int a0), (2, .int a1), (3, .int a2), (4, .int a3)]) dX0_gives_24 (by decide) rfl ?_
      have K_26_185 : ∀ (m2 : Mem), f_X0_gives_K26_185 m2 = some (x, m) → G 185 [(0, .ref (sq Y 1))] [] m2 := by
        intro m2 hf
        unfold f_X0_gives_K26_185 at hf
        refine g_aload_n Γ (pc := 185) 0 dX0_gives_185 rfl rfl ?_
        refine g_get Γ (pc := 186) (v := .ref (sq Y 6)) dX0_gives_186 (C_book hC) fr_X0_26 rfl ?_
        refine g_iconst Γ (pc := 189) (v := 0) dX0_gives_189 rfl ?_
        refine g_iald Γ (pc := 190) dX0_gives_190 (C_6 hC) hf (fun v3 hf => ?_)
        exact rI ret dX0_gives_191 hf
      refine g_sub Γ [3, 4, 5, 6, 7, 2, 1, 0] rfl ?_
      refine lpF_s (P := fun (v : Int32 × Int32 × Mem) => G 26 [(0, .ref (sq Y 1)), (1, .int a0), (2, .int a1), (3, .int a2), (4, .int a3), (5, .ref (sq Y (7 + j1))), (6, .int v.1), (7, .int v.2.1)] [] v.2.2) hf (fun v z1 hf kI1 kX1 => ?_)
      obtain ⟨x6_4, x7_5, m6⟩ := v
      replace hf : f_X0_gives_L26 a0 a1 a2 a3 j1 x6_4 x7_5 m6 = some z1 := hf
      show G 26 [(0, .ref (sq Y 1)), (1, .int a0), (2, .int a1), (3, .int a2), (4, .int a3), (5, .ref (sq Y (7 + j1))), (6, .int x6_4), (7, .int x7_5)] [] m6
      unfold f_X0_gives_L26 at hf
      refine g_iload Γ (pc := 26) 7 dX0_gives_26 rfl ?_
      refine g_aload_n Γ (pc := 28) 0 dX0_gives_28 rfl rfl ?_
      refine g_get Γ (pc := 29) (v := .ref (sq Y 4)) dX0_gives_29 (C_book hC) fr_X0_18 rfl ?_
      refine g_iload_n Γ (pc := 32) 1 dX0_gives_32 rfl rfl ?_
      refine g_iald Γ (pc := 33) dX0_gives_33 (C_4 hC) hf (fun v7 hf => ?_)
      refine g_icmp_ge Γ (pc := 34) (tgt := 185) dX0_gives_34 rfl hf (fun hf => ?_) (fun hf => ?_)
      · refine g_sub Γ [0] rfl ?_
        exact K_26_185 m6 (kX1 m6 (Option.some.inj hf).symm)
      · refine g_iload Γ (pc := 37) 7 dX0_gives_37 rfl ?_
        refine g_aload Γ (pc := 39) 5 dX0_gives_39 rfl ?_
        refine g_alen Γ (pc := 41) (v := 96) dX0_gives_41 (C_stepsAt hC hj1) rfl ?_
        refine g_icmp_ge Γ (pc := 42) (tgt := 185) dX0_gives_42 rfl hf (fun hf => ?_) (fun hf => ?_)
        · refine g_sub Γ [0] rfl ?_
          exact K_26_185 m6 (kX1 m6 (Option.some.inj hf).symm)
        · refine g_aload Γ (pc := 45) 5 dX0_gives_45 rfl ?_
          refine g_iload Γ (pc := 47) 7 dX0_gives_47 rfl ?_
          refine g_iald Γ (pc := 49) dX0_gives_49 (C_stepsAt hC hj1) hf (fun v8 hf => ?_)
          refine g_istore Γ (pc := 50) (lv' := [(8, .int v8), (0, .ref (sq Y 1)), (1, .int a0), (2, .int a1), (3, .int a2), (4, .int a3), (5, .ref (sq Y (7 + j1))), (6, .int x6_4), (7, .int x7_5)]) dX0_gives_50 (by decide) rfl ?_
          refine g_iload Γ (pc := 52) 0 dX0_gives_52 rfl ?_
          refine g_bipush Γ (pc := 54) (v := (-4)) dX0_gives_54 rfl ?_
          have J_179 : ∀ (x6_9 : Int32) (m10 : Mem), f_X0_gives_J179 x7_5 x6_9 m10 = some z1 → G 179 [(0, .ref (sq Y 1)), (1, .int a0), (2, .int a1), (3, .int a2), (4, .int a3), (5, .ref (sq Y (7 + j1))), (6, .int x6_9), (7, .int x7_5)] [] m10 := by
            intro x6_9 m10 hf
            unfold f_X0_gives_J179 at hf
            refine g_iinc Γ (pc := 179) (v := x7_5 + 1) (lv' := [(7, .int (x7_5 + 1)), (0, .ref (sq Y 1)), (1, .int a0), (2, .int a1), (3, .int a2), (4, .int a3), (5, .ref (sq Y (7 + j1))), (6, .int x6_9)]) 7 dX0_gives_179 rfl rfl (by decide) rfl ?_
            refine g_goto Γ (pc := 182) (tgt := 26) dX0_gives_182 rfl ?_
            refine g_sub Γ [1, 2, 3, 4, 5, 6, 7, 0] rfl ?_
            exact kI1 (x6_9, x7_5 + 1, m10) (Option.some.inj hf).symm
          refine g_icmp_lt Γ (pc := 56) (tgt := 139) dX0_gives_56 rfl hf (fun hf => ?_) (fun hf => ?_)
          · refine g_iload Γ (pc := 139) 7 dX0_gives_139 rfl ?_
            refine g_iconst Γ (pc := 141) (v := 1) dX0_gives_141 rfl ?_
            refine g_icmp_le Γ (pc := 142) (tgt := 179) dX0_gives_142 rfl hf (fun hf => ?_) (fun hf => ?_)
            · refine g_sub Γ [1, 2, 3, 4, 5, 6, 7, 8] rfl ?_
              exact J_179 x6_4 m6 hf
            · refine g_iinc Γ (pc := 145) (v := x6_4 + (-1)) (lv' := [(6, .int (x6_4 + (-1))), (8, .int v8), (0, .ref (sq Y 1)), (1, .int a0), (2, .int a1), (3, .int a2), (4, .int a3), (5, .ref (sq Y (7 + j1))), (7, .int x7_5)]) 7 dX0_gives_145 rfl rfl (by decide) rfl ?_
              refine g_aload_n Γ (pc := 148) 2 dX0_gives_148 rfl rfl ?_
              refine g_get Γ (pc := 149) (v := .ref (sq Y 6)) dX0_gives_149 (C_book hC) fr_X0_26 rfl ?_
              refine g_iload Γ (pc := 152) 0 dX0_gives_152 rfl ?_
              refine g_iconst Γ (pc := 154) (v := 1) dX0_gives_154 rfl ?_
              refine g_isub Γ (pc := 155) dX0_gives_155 ?_
              refine g_iload Γ (pc := 156) 1 dX0_gives_156 rfl ?_
              refine g_ineg Γ (pc := 158) dX0_gives_158 ?_
              refine g_aload_n Γ (pc := 159) 2 dX0_gives_159 rfl rfl ?_
              refine g_get Γ (pc := 160) (v := .ref (sq Y 6)) dX0_gives_160 (C_book hC) fr_X0_26 rfl ?_
              refine g_iload Γ (pc := 163) 0 dX0_gives_163 rfl ?_
              refine g_iconst Γ (pc := 165) (v := 1) dX0_gives_165 rfl ?_
              refine g_isub Γ (pc := 166) dX0_gives_166 ?_
              refine g_iald Γ (pc := 167) dX0_gives_167 (C_6 hC) hf (fun v11 hf => ?_)
              refine g_aload_n Γ (pc := 168) 2 dX0_gives_168 rfl rfl ?_
              refine g_get Γ (pc := 169) (v := .ref (sq Y 6)) dX0_gives_169 (C_book hC) fr_X0_26 rfl ?_
              refine g_iload Γ (pc := 172) 0 dX0_gives_172 rfl ?_
              refine g_iald Γ (pc := 174) dX0_gives_174 (C_6 hC) hf (fun v12 hf => ?_)
              obtain ⟨v13, h1, hf⟩ := bn1_i hf
              refine g_callSI Γ (pc := 175) (as := [.int (-v8), .int v11, .int v12]) (st := [.int ((x6_4 + (-1)) - 1), .ref (sq Y 6)]) dX0_gives_175 (c_X0_joined h1) mi_X0_joined ms_X0_joined kM_X0_58 rfl ⟨Nat.le_of_ble_eq_true rfl, Nat.le_of_ble_eq_true rfl⟩ rfl (Nat.le_of_ble_eq_true rfl) ?_
              refine g_iast Γ (pc := 178) dX0_gives_178 (C_6 hC) hf (fun m14 hf => ?_)
              refine g_sub Γ [2, 3, 4, 5, 6, 7, 0, 8] rfl ?_
              exact J_179 (x6_4 + (-1)) m14 hf
          · refine g_iload Γ (pc := 59) 0 dX0_gives_59 rfl ?_
            refine g_bipush Γ (pc := 61) (v := (-4)) dX0_gives_61 rfl ?_
            have J_98 : f_X0_gives_J98 x6_4 x7_5 m6 v8 = some z1 → G 98 [(0, .ref (sq Y 1)), (1, .int a0), (2, .int a1), (3, .int a2), (4, .int a3), (5, .ref (sq Y (7 + j1))), (6, .int x6_4), (7, .int x7_5), (8, .int v8)] [] m6 := by
              intro hf
              unfold f_X0_gives_J98 at hf
              refine g_iload Γ (pc := 98) 8 dX0_gives_98 rfl ?_
              refine g_bipush Γ (pc := 100) (v := (-4)) dX0_gives_100 rfl ?_
              refine g_icmp_ne Γ (pc := 102) (tgt := 179) dX0_gives_102 rfl hf (fun hf => ?_) (fun hf => ?_)
              · refine g_sub Γ [0, 1, 2, 3, 4, 5, 6, 7] rfl ?_
                exact J_179 x6_4 m6 hf
              · refine g_iload Γ (pc := 105) 6 dX0_gives_105 rfl ?_
                refine g_if_le Γ (pc := 107) (tgt := 179) dX0_gives_107 rfl hf (fun hf => ?_) (fun hf => ?_)
                · refine g_sub Γ [0, 1, 2, 3, 4, 5, 6, 7] rfl ?_
                  exact J_179 x6_4 m6 hf
                · refine g_aload_n Γ (pc := 110) 0 dX0_gives_110 rfl rfl ?_
                  refine g_get Γ (pc := 111) (v := .ref (sq Y 6)) dX0_gives_111 (C_book hC) fr_X0_26 rfl ?_
                  refine g_iload Γ (pc := 114) 6 dX0_gives_114 rfl ?_
                  refine g_iconst Γ (pc := 116) (v := 1) dX0_gives_116 rfl ?_
                  refine g_isub Γ (pc := 117) dX0_gives_117 ?_
                  refine g_aload_n Γ (pc := 118) 0 dX0_gives_118 rfl rfl ?_
                  refine g_get Γ (pc := 119) (v := .ref (sq Y 6)) dX0_gives_119 (C_book hC) fr_X0_26 rfl ?_
                  refine g_iload Γ (pc := 122) 6 dX0_gives_122 rfl ?_
                  refine g_iconst Γ (pc := 124) (v := 1) dX0_gives_124 rfl ?_
                  refine g_isub Γ (pc := 125) dX0_gives_125 ?_
                  refine g_iald Γ (pc := 126) dX0_gives_126 (C_6 hC) hf (fun v15 hf => ?_)
                  have J_135 : ∀ (s16 : Int32), f_X0_gives_J135 x6_4 x7_5 m6 s16 = some z1 → G 135 [(0, .ref (sq Y 1)), (1, .int a0), (2, .int a1), (3, .int a2), (4, .int a3), (5, .ref (sq Y (7 + j1))), (6, .int x6_4), (7, .int x7_5)] [.int s16, .int (x6_4 - 1), .ref (sq Y 6)] m6 := by
                    intro s16 hf
                    unfold f_X0_gives_J135 at hf
                    refine g_iast Γ (pc := 135) dX0_gives_135 (C_6 hC) hf (fun m17 hf => ?_)
                    refine g_goto Γ (pc := 136) (tgt := 179) dX0_gives_136 rfl ?_
                    refine g_sub Γ [0, 1, 2, 3, 4, 5, 6, 7] rfl ?_
                    exact J_179 x6_4 m17 hf
                  refine g_if_ne Γ (pc := 127) (tgt := 134) dX0_gives_127 rfl hf (fun hf => ?_) (fun hf => ?_)
                  · refine g_iconst Γ (pc := 134) (v := 0) dX0_gives_134 rfl ?_
                    refine g_sub Γ [0, 1, 2, 3, 4, 5, 6, 7] rfl ?_
                    exact J_135 0 hf
                  · refine g_iconst Γ (pc := 130) (v := 1) dX0_gives_130 rfl ?_
                    refine g_goto Γ (pc := 131) (tgt := 135) dX0_gives_131 rfl ?_
                    refine g_sub Γ [0, 1, 2, 3, 4, 5, 6, 7] rfl ?_
                    exact J_135 1 hf
            refine g_icmp_eq Γ (pc := 63) (tgt := 98) dX0_gives_63 rfl hf (fun hf => ?_) (fun hf => ?_)
            · refine g_sub Γ [1, 2, 3, 4, 5, 6, 7, 8, 0] rfl ?_
              exact J_98 hf
            · refine g_iload Γ (pc := 66) 7 dX0_gives_66 rfl ?_
              refine g_aload_n Γ (pc := 68) 1 dX0_gives_68 rfl rfl ?_
              refine g_get Γ (pc := 69) (v := .ref (sq Y 6)) dX0_gives_69 (C_book hC) fr_X0_26 rfl ?_
              refine g_alen Γ (pc := 72) (v := 96) dX0_gives_72 (C_6 hC) rfl ?_
              refine g_icmp_ge Γ (pc := 73) (tgt := 98) dX0_gives_73 rfl hf (fun hf => ?_) (fun hf => ?_)
              · refine g_sub Γ [1, 2, 3, 4, 5, 6, 7, 8, 0] rfl ?_
                exact J_98 hf
              · refine g_aload_n Γ (pc := 76) 1 dX0_gives_76 rfl rfl ?_
                refine g_get Γ (pc := 77) (v := .ref (sq Y 6)) dX0_gives_77 (C_book hC) fr_X0_26 rfl ?_
                refine g_iload Γ (pc := 80) 7 dX0_gives_80 rfl ?_
                refine g_iload Γ (pc := 82) 0 dX0_gives_82 rfl ?_
                refine g_iload_n Γ (pc := 84) 3 dX0_gives_84 rfl rfl ?_
                refine g_iload_n Γ (pc := 85) 4 dX0_gives_85 rfl rfl ?_
                refine g_iload Γ (pc := 86) 5 dX0_gives_86 rfl ?_
                obtain ⟨v18, h1, hf⟩ := bn1_i hf
                refine g_callSI Γ (pc := 88) (as := [.int v8, .int a1, .int a2, .int a3]) (st := [.int x6_4, .ref (sq Y 6)]) dX0_gives_88 (c_X0_leaf h1) mi_X0_leaf ms_X0_leaf kM_X0_54 rfl ⟨Nat.le_of_ble_eq_true rfl, Nat.le_of_ble_eq_true rfl⟩ rfl (Nat.le_of_ble_eq_true rfl) ?_
                refine g_iast Γ (pc := 91) dX0_gives_91 (C_6 hC) hf (fun m19 hf => ?_)
                refine g_iinc Γ (pc := 92) (v := x6_4 + 1) (lv' := [(6, .int (x6_4 + 1)), (8, .int v8), (0, .ref (sq Y 1)), (1, .int a0), (2, .int a1), (3, .int a2), (4, .int a3), (5, .ref (sq Y (7 + j1))), (7, .int x7_5)]) 7 dX0_gives_92 rfl rfl (by decide) rfl ?_
                refine g_goto Γ (pc := 95) (tgt := 179) dX0_gives_95 rfl ?_
                refine g_sub Γ [2, 3, 4, 5, 6, 7, 0, 8] rfl ?_
                exact J_179 (x6_4 + 1) m19 hf
    · refine g_iconst Γ (pc := 10) (v := 0) dX0_gives_10 rfl ?_
      exact rI ret dX0_gives_11 hf
def f_X1_owes (a0 : Int32) (a1 : Int32) : Option (Int32) :=
  if a0 = 1 then
    bn1 (dvM a1 2) fun v4 =>
    some v4
  else
    if a0 = 2 then
      nm (if (a1 - 4) < 0 then 0 else (a1 - 4)) fun e3 =>
      some e3
    else
      if a0 = 3 then
        bn1 (dvM a1 2) fun v2 =>
        some (v2 + 2)
      else
        if a0 = 4 then
          nm (if (a1 - 4) < 0 then 0 else (a1 - 4)) fun e1 =>
          some e1
        else
          if a0 = 5 then
            some (2 * a1)
          else
            some a1
set_option maxRecDepth 100000 in
set_option maxHeartbeats 4000000 in
theorem c_X1_owes {Y : SYS} {a0 : Int32} {a1 : Int32} {μ : Mem} {x : Int32} (hf : f_X1_owes a0 a1 = some x) : KC Y yX1_owes cX1_owes 2 (some .int) 1 [.int a0, .int a1] μ (some (.int x)) μ := by
  refine KC.I RX1 [(0, .int a0), (1, .int a1)] (by decide) rfl (Nat.le_of_ble_eq_true rfl) rfl (fun G Γ ret => ?_)
  unfold f_X1_owes at hf
  refine g_iload_n Γ (pc := 0) 0 dX1_owes_0 rfl rfl ?_
  by_cases h1_0 : a0 = 1
  · replace hf := ite_t h1_0 hf
    refine g_tin Γ (pc := 1) (tgt := 36) 1 dX1_owes_1 h1_0 (by decide) (by decide) rfl rfl ?_
    refine g_iload_n Γ (pc := 36) 1 dX1_owes_36 rfl rfl ?_
    refine g_iconst Γ (pc := 37) (v := 2) dX1_owes_37 rfl ?_
    refine g_idiv Γ (pc := 38) dX1_owes_38 hf (fun v4 hf => ?_)
    exact rIr ret dX1_owes_39 hf
  · replace hf := ite_f h1_0 hf
    by_cases h1_1 : a0 = 2
    · replace hf := ite_t h1_1 hf
      refine g_tin Γ (pc := 1) (tgt := 46) 2 dX1_owes_1 h1_1 (by decide) (by decide) rfl rfl ?_
      refine g_iload_n Γ (pc := 46) 1 dX1_owes_46 rfl rfl ?_
      refine g_iconst Γ (pc := 47) (v := 4) dX1_owes_47 rfl ?_
      refine g_isub Γ (pc := 48) dX1_owes_48 ?_
      refine g_iconst Γ (pc := 49) (v := 0) dX1_owes_49 rfl ?_
      refine g_max Γ (pc := 50) dX1_owes_50 kM_X1_15 kS_Math_max kI_J9 kC_Math_max (Nat.le_of_ble_eq_true rfl) (Nat.le_of_ble_eq_true rfl) ?_
      refine g_nmi hf (fun e3 hf => ?_)
      exact rIr ret dX1_owes_53 hf
    · replace hf := ite_f h1_1 hf
      by_cases h1_2 : a0 = 3
      · replace hf := ite_t h1_2 hf
        refine g_tin Γ (pc := 1) (tgt := 40) 3 dX1_owes_1 h1_2 (by decide) (by decide) rfl rfl ?_
        refine g_iload_n Γ (pc := 40) 1 dX1_owes_40 rfl rfl ?_
        refine g_iconst Γ (pc := 41) (v := 2) dX1_owes_41 rfl ?_
        refine g_idiv Γ (pc := 42) dX1_owes_42 hf (fun v2 hf => ?_)
        refine g_iconst Γ (pc := 43) (v := 2) dX1_owes_43 rfl ?_
        refine g_iadd Γ (pc := 44) dX1_owes_44 ?_
        exact rIr ret dX1_owes_45 hf
      · replace hf := ite_f h1_2 hf
        by_cases h1_3 : a0 = 4
        · replace hf := ite_t h1_3 hf
          refine g_tin Γ (pc := 1) (tgt := 46) 4 dX1_owes_1 h1_3 (by decide) (by decide) rfl rfl ?_
          refine g_iload_n Γ (pc := 46) 1 dX1_owes_46 rfl rfl ?_
          refine g_iconst Γ (pc := 47) (v := 4) dX1_owes_47 rfl ?_
          refine g_isub Γ (pc := 48) dX1_owes_48 ?_
          refine g_iconst Γ (pc := 49) (v := 0) dX1_owes_49 rfl ?_
          refine g_max Γ (pc := 50) dX1_owes_50 kM_X1_15 kS_Math_max kI_J9 kC_Math_max (Nat.le_of_ble_eq_true rfl) (Nat.le_of_ble_eq_true rfl) ?_
          refine g_nmi hf (fun e1 hf => ?_)
          exact rIr ret dX1_owes_53 hf
        · replace hf := ite_f h1_3 hf
          by_cases h1_4 : a0 = 5
          · replace hf := ite_t h1_4 hf
            refine g_tin Γ (pc := 1) (tgt := 54) 5 dX1_owes_1 h1_4 (by decide) (by decide) rfl rfl ?_
            refine g_iconst Γ (pc := 54) (v := 2) dX1_owes_54 rfl ?_
            refine g_iload_n Γ (pc := 55) 1 dX1_owes_55 rfl rfl ?_
            refine g_imul Γ (pc := 56) dX1_owes_56 ?_
            exact rIr ret dX1_owes_57 hf
          · replace hf := ite_f h1_4 hf
            refine g_tableOut Γ (pc := 1) (tgt := 58) dX1_owes_1 (by have e0 := ne_ti (k := 1) rfl h1_0; have e1 := ne_ti (k := 2) rfl h1_1; have e2 := ne_ti (k := 3) rfl h1_2; have e3 := ne_ti (k := 4) rfl h1_3; have e4 := ne_ti (k := 5) rfl h1_4; omega) rfl ?_
            refine g_iload_n Γ (pc := 58) 1 dX1_owes_58 rfl rfl ?_
            exact rIr ret dX1_owes_59 hf
def f_X6_owes_J53 (b : Nat) (a0 : Int32) (x4_3 : Int32) (m4 : Mem) : Option (Int32 × Mem) :=
  nm (if 999 < x4_3 then 999 else x4_3) fun e5 =>
  nm (if 0 < e5 then e5 else 0) fun e6 =>
  bn1 (ldM (m4 (b + 1)) 10 a0) fun v7 =>
  bn1 (f_X1_owes v7 e6) fun v8 =>
  some (v8, m4)
def f_X6_owes (b : Nat) (a0 : Int32) (μ : Mem) : Option (Int32 × Mem) :=
  bn1 (f_X6_offOf b a0 μ) fun v1 =>
  bn1 (f_X0_counts 0 (μ b 14) μ) fun v2 =>
  if v2 < 0 then
    f_X6_owes_J53 b a0 (3 * v1) μ
  else
    bn1 (ldM (μ (b + 4)) 10 a0) fun v9 =>
    bn1 (f_J6_bitCount_0f7a4 v9) fun v10 =>
    bn1 (f_X6_mindOf b a0 μ) fun v11 =>
    bn2 (f_X0_gives v2 v1 v10 v11 μ) fun v12 m13 =>
    f_X6_owes_J53 b a0 v12 m13
set_option maxRecDepth 100000 in
set_option maxHeartbeats 4000000 in
theorem c_X6_owes {Y : SYS} (hC : IsC Y) {b : Nat} {a0 : Int32} {μ : Mem} {x : Int32} {m : Mem} (hb : TownAt b) (hf : f_X6_owes b a0 μ = some (x, m)) : KC Y yX6_owes cX6_owes 5 (some .int) 4 [.ref (sq Y b), .int a0] μ (some (.int x)) m := by
  refine KC.I RX6 [(0, .ref (sq Y b)), (1, .int a0)] (by decide) rfl (Nat.le_of_ble_eq_true rfl) rfl (fun G Γ ret => ?_)
  unfold f_X6_owes at hf
  refine g_aload_n Γ (pc := 0) 0 dX6_owes_0 rfl rfl ?_
  refine g_iload_n Γ (pc := 1) 1 dX6_owes_1 rfl rfl ?_
  obtain ⟨v1, h1, hf⟩ := bn1_i hf
  refine g_callVI Γ (pc := 2) (as := [.int a0]) (st := []) dX6_owes_2 (c_X6_offOf hC hb h1) (C_town hC hb) rfl mi_X6_offOf mv_X6_offOf kM_X6_83 rfl ⟨Nat.le_of_ble_eq_true rfl, Nat.le_of_ble_eq_true rfl⟩ rfl (Nat.le_of_ble_eq_true rfl) ?_
  refine g_istore_n Γ (pc := 5) (lv' := [(2, .int v1), (0, .ref (sq Y b)), (1, .int a0)]) dX6_owes_5 rfl (by decide) rfl ?_
  refine g_aload_n Γ (pc := 6) 1 dX6_owes_6 rfl rfl ?_
  refine g_get Γ (pc := 7) (v := .ref (sq Y 1)) dX6_owes_7 (C_town hC hb) fr_X6_55 rfl ?_
  refine g_iconst Γ (pc := 10) (v := 0) dX6_owes_10 rfl ?_
  refine g_aload_n Γ (pc := 11) 1 dX6_owes_11 rfl rfl ?_
  refine g_get Γ (pc := 12) (v := .int (μ b 14)) dX6_owes_12 (C_town hC hb) fr_X6_52 rfl ?_
  obtain ⟨v2, h1, hf⟩ := bn1_i hf
  refine g_callVI Γ (pc := 15) (as := [.int 0, .int (μ b 14)]) (st := []) dX6_owes_15 (c_X0_counts hC h1) (C_book hC) rfl mi_X0_counts mv_X0_counts kM_X6_86 rfl ⟨Nat.le_of_ble_eq_true rfl, Nat.le_of_ble_eq_true rfl⟩ rfl (Nat.le_of_ble_eq_true rfl) ?_
  refine g_istore_n Γ (pc := 18) (lv' := [(3, .int v2), (2, .int v1), (0, .ref (sq Y b)), (1, .int a0)]) dX6_owes_18 rfl (by decide) rfl ?_
  refine g_iconst Γ (pc := 19) (v := 3) dX6_owes_19 rfl ?_
  refine g_iload_n Γ (pc := 20) 1 dX6_owes_20 rfl rfl ?_
  refine g_imul Γ (pc := 21) dX6_owes_21 ?_
  refine g_istore Γ (pc := 22) (lv' := [(4, .int (3 * v1)), (3, .int v2), (2, .int v1), (0, .ref (sq Y b)), (1, .int a0)]) dX6_owes_22 (by decide) rfl ?_
  refine g_iload_n Γ (pc := 24) 1 dX6_owes_24 rfl rfl ?_
  have J_53 : ∀ (x4_3 : Int32) (m4 : Mem), f_X6_owes_J53 b a0 x4_3 m4 = some (x, m) → G 53 [(0, .ref (sq Y b)), (1, .int a0), (4, .int x4_3)] [] m4 := by
    intro x4_3 m4 hf
    unfold f_X6_owes_J53 at hf
    refine g_iconst Γ (pc := 53) (v := 0) dX6_owes_53 rfl ?_
    refine g_iload Γ (pc := 54) 2 dX6_owes_54 rfl ?_
    refine g_sipush Γ (pc := 56) (v := 999) dX6_owes_56 rfl ?_
    refine g_min Γ (pc := 59) dX6_owes_59 kM_X6_98 kS_Math_min kI_J9 kC_Math_min (Nat.le_of_ble_eq_true rfl) (Nat.le_of_ble_eq_true rfl) ?_
    refine g_nmi hf (fun e5 hf => ?_)
    refine g_max Γ (pc := 62) dX6_owes_62 kM_X6_101 kS_Math_max kI_J9 kC_Math_max (Nat.le_of_ble_eq_true rfl) (Nat.le_of_ble_eq_true rfl) ?_
    refine g_nmi hf (fun e6 hf => ?_)
    refine g_istore Γ (pc := 65) (lv' := [(4, .int e6), (0, .ref (sq Y b)), (1, .int a0)]) dX6_owes_65 (by decide) rfl ?_
    refine g_aload_n Γ (pc := 67) 1 dX6_owes_67 rfl rfl ?_
    refine g_get Γ (pc := 68) (v := .ref (sq Y (b + 1))) dX6_owes_68 (C_town hC hb) fr_X6_9 rfl ?_
    refine g_iload_n Γ (pc := 71) 2 dX6_owes_71 rfl rfl ?_
    refine g_iald Γ (pc := 72) dX6_owes_72 (C_town1 hC hb) hf (fun v7 hf => ?_)
    refine g_iload Γ (pc := 73) 0 dX6_owes_73 rfl ?_
    obtain ⟨v8, h1, hf⟩ := bn1_i hf
    refine g_callSI Γ (pc := 75) (as := [.int v7, .int e6]) (st := []) dX6_owes_75 (c_X1_owes h1) mi_X1_owes ms_X1_owes kM_X6_104 rfl ⟨Nat.le_of_ble_eq_true rfl, Nat.le_of_ble_eq_true rfl⟩ rfl (Nat.le_of_ble_eq_true rfl) ?_
    exact rI ret dX6_owes_78 hf
  refine g_if_lt Γ (pc := 25) (tgt := 53) dX6_owes_25 rfl hf (fun hf => ?_) (fun hf => ?_)
  · refine g_sub Γ [3, 4, 0] rfl ?_
    exact J_53 (3 * v1) μ hf
  · refine g_aload_n Γ (pc := 28) 3 dX6_owes_28 rfl rfl ?_
    refine g_get Γ (pc := 29) (v := .ref (sq Y 1)) dX6_owes_29 (C_town hC hb) fr_X6_55 rfl ?_
    refine g_iload_n Γ (pc := 32) 1 dX6_owes_32 rfl rfl ?_
    refine g_iload_n Γ (pc := 33) 2 dX6_owes_33 rfl rfl ?_
    refine g_aload_n Γ (pc := 34) 3 dX6_owes_34 rfl rfl ?_
    refine g_get Γ (pc := 35) (v := .ref (sq Y (b + 4))) dX6_owes_35 (C_town hC hb) fr_X6_21 rfl ?_
    refine g_iload_n Γ (pc := 38) 4 dX6_owes_38 rfl rfl ?_
    refine g_iald Γ (pc := 39) dX6_owes_39 (C_town4 hC hb) hf (fun v9 hf => ?_)
    obtain ⟨v10, h1, hf⟩ := bn1_i hf
    refine g_callSI Γ (pc := 40) (as := [.int v9]) (st := [.int v1, .int v2, .ref (sq Y 1)]) dX6_owes_40 (c_J6_bitCount_0f7a4 h1) mi_J6_bitCount_0f7a4 ms_J6_bitCount_0f7a4 kM_X6_65 rfl ⟨Nat.le_of_ble_eq_true rfl, Nat.le_of_ble_eq_true rfl⟩ rfl (Nat.le_of_ble_eq_true rfl) ?_
    refine g_aload_n Γ (pc := 43) 3 dX6_owes_43 rfl rfl ?_
    refine g_iload_n Γ (pc := 44) 4 dX6_owes_44 rfl rfl ?_
    obtain ⟨v11, h1, hf⟩ := bn1_i hf
    refine g_callVI Γ (pc := 45) (as := [.int a0]) (st := [.int v10, .int v1, .int v2, .ref (sq Y 1)]) dX6_owes_45 (c_X6_mindOf hC hb h1) (C_town hC hb) rfl mi_X6_mindOf mv_X6_mindOf kM_X6_91 rfl ⟨Nat.le_of_ble_eq_true rfl, Nat.le_of_ble_eq_true rfl⟩ rfl (Nat.le_of_ble_eq_true rfl) ?_
    obtain ⟨v12, m13, h1, hf⟩ := bn2_i hf
    refine g_callVI Γ (pc := 48) (as := [.int v2, .int v1, .int v10, .int v11]) (st := []) dX6_owes_48 (c_X0_gives hC h1) (C_book hC) rfl mi_X0_gives mv_X0_gives kM_X6_94 rfl ⟨Nat.le_of_ble_eq_true rfl, Nat.le_of_ble_eq_true rfl⟩ rfl (Nat.le_of_ble_eq_true rfl) ?_
    refine g_istore Γ (pc := 51) (lv' := [(4, .int v12), (3, .int v2), (2, .int v1), (0, .ref (sq Y b)), (1, .int a0)]) dX6_owes_51 (by decide) rfl ?_
    refine g_sub Γ [3, 4, 0] rfl ?_
    exact J_53 v12 m13 hf
def f_X1_asks (a0 : Int32) (a1 : Int32) : Option (Int32) :=
  if a0 = 1 then
    some (a1 + 5)
  else
    if a0 = 2 then
      bn1 (dvM a1 2) fun v1 =>
      some v1
    else
      if a0 = 3 then
        some (2 * (a1 + 5))
      else
        if a0 = 4 then
          some 0
        else
          some a1
set_option maxRecDepth 100000 in
set_option maxHeartbeats 4000000 in
theorem c_X1_asks {Y : SYS} {a0 : Int32} {a1 : Int32} {μ : Mem} {x : Int32} (hf : f_X1_asks a0 a1 = some x) : KC Y yX1_asks cX1_asks 2 (some .int) 0 [.int a0, .int a1] μ (some (.int x)) μ := by
  refine KC.I RX1 [(0, .int a0), (1, .int a1)] (by decide) rfl (Nat.le_of_ble_eq_true rfl) rfl (fun G Γ ret => ?_)
  unfold f_X1_asks at hf
  refine g_iload_n Γ (pc := 0) 0 dX1_asks_0 rfl rfl ?_
  by_cases h1_0 : a0 = 1
  · replace hf := ite_t h1_0 hf
    refine g_tin Γ (pc := 1) (tgt := 32) 1 dX1_asks_1 h1_0 (by decide) (by decide) rfl rfl ?_
    refine g_iload_n Γ (pc := 32) 1 dX1_asks_32 rfl rfl ?_
    refine g_iconst Γ (pc := 33) (v := 5) dX1_asks_33 rfl ?_
    refine g_iadd Γ (pc := 34) dX1_asks_34 ?_
    exact rIr ret dX1_asks_35 hf
  · replace hf := ite_f h1_0 hf
    by_cases h1_1 : a0 = 2
    · replace hf := ite_t h1_1 hf
      refine g_tin Γ (pc := 1) (tgt := 42) 2 dX1_asks_1 h1_1 (by decide) (by decide) rfl rfl ?_
      refine g_iload_n Γ (pc := 42) 1 dX1_asks_42 rfl rfl ?_
      refine g_iconst Γ (pc := 43) (v := 2) dX1_asks_43 rfl ?_
      refine g_idiv Γ (pc := 44) dX1_asks_44 hf (fun v1 hf => ?_)
      exact rIr ret dX1_asks_45 hf
    · replace hf := ite_f h1_1 hf
      by_cases h1_2 : a0 = 3
      · replace hf := ite_t h1_2 hf
        refine g_tin Γ (pc := 1) (tgt := 36) 3 dX1_asks_1 h1_2 (by decide) (by decide) rfl rfl ?_
        refine g_iconst Γ (pc := 36) (v := 2) dX1_asks_36 rfl ?_
        refine g_iload_n Γ (pc := 37) 1 dX1_asks_37 rfl rfl ?_
        refine g_iconst Γ (pc := 38) (v := 5) dX1_asks_38 rfl ?_
        refine g_iadd Γ (pc := 39) dX1_asks_39 ?_
        refine g_imul Γ (pc := 40) dX1_asks_40 ?_
        exact rIr ret dX1_asks_41 hf
      · replace hf := ite_f h1_2 hf
        by_cases h1_3 : a0 = 4
        · replace hf := ite_t h1_3 hf
          refine g_tin Γ (pc := 1) (tgt := 46) 4 dX1_asks_1 h1_3 (by decide) (by decide) rfl rfl ?_
          refine g_iconst Γ (pc := 46) (v := 0) dX1_asks_46 rfl ?_
          exact rIr ret dX1_asks_47 hf
        · replace hf := ite_f h1_3 hf
          refine g_tableOut Γ (pc := 1) (tgt := 48) dX1_asks_1 (by have e0 := ne_ti (k := 1) rfl h1_0; have e1 := ne_ti (k := 2) rfl h1_1; have e2 := ne_ti (k := 3) rfl h1_2; have e3 := ne_ti (k := 4) rfl h1_3; omega) rfl ?_
          refine g_iload_n Γ (pc := 48) 1 dX1_asks_48 rfl rfl ?_
          exact rIr ret dX1_asks_49 hf
def f_X6_asks (b : Nat) (a0 : Int32) (μ : Mem) : Option (Int32) :=
  bn1 (ldM (μ (b + 1)) 10 a0) fun v1 =>
  bn1 (ldM (μ (b + 2)) 10 a0) fun v2 =>
  bn1 (f_X1_asks v1 v2) fun v3 =>
  some v3
set_option maxRecDepth 100000 in
set_option maxHeartbeats 4000000 in
theorem c_X6_asks {Y : SYS} (hC : IsC Y) {b : Nat} {a0 : Int32} {μ : Mem} {x : Int32} (hb : TownAt b) (hf : f_X6_asks b a0 μ = some x) : KC Y yX6_asks cX6_asks 2 (some .int) 1 [.ref (sq Y b), .int a0] μ (some (.int x)) μ := by
  refine KC.I RX6 [(0, .ref (sq Y b)), (1, .int a0)] (by decide) rfl (Nat.le_of_ble_eq_true rfl) rfl (fun G Γ ret => ?_)
  unfold f_X6_asks at hf
  refine g_aload_n Γ (pc := 0) 0 dX6_asks_0 rfl rfl ?_
  refine g_get Γ (pc := 1) (v := .ref (sq Y (b + 1))) dX6_asks_1 (C_town hC hb) fr_X6_9 rfl ?_
  refine g_iload_n Γ (pc := 4) 1 dX6_asks_4 rfl rfl ?_
  refine g_iald Γ (pc := 5) dX6_asks_5 (C_town1 hC hb) hf (fun v1 hf => ?_)
  refine g_aload_n Γ (pc := 6) 0 dX6_asks_6 rfl rfl ?_
  refine g_get Γ (pc := 7) (v := .ref (sq Y (b + 2))) dX6_asks_7 (C_town hC hb) fr_X6_15 rfl ?_
  refine g_iload_n Γ (pc := 10) 1 dX6_asks_10 rfl rfl ?_
  refine g_iald Γ (pc := 11) dX6_asks_11 (C_town2 hC hb) hf (fun v2 hf => ?_)
  obtain ⟨v3, h1, hf⟩ := bn1_i hf
  refine g_callSI Γ (pc := 12) (as := [.int v1, .int v2]) (st := []) dX6_asks_12 (c_X1_asks h1) mi_X1_asks ms_X1_asks kM_X6_109 rfl ⟨Nat.le_of_ble_eq_true rfl, Nat.le_of_ble_eq_true rfl⟩ rfl (Nat.le_of_ble_eq_true rfl) ?_
  exact rIr ret dX6_asks_15 hf
def f_X1_worth (a0 : Int32) (a1 : Int32) : Option (Int32) :=
  if a0 = 1 then
    some (a1 + 9)
  else
    if a0 = 2 then
      some (99 - a1)
    else
      if a0 = 3 then
        some (2 * (a1 + 9))
      else
        if a0 = 4 then
          some ((99 - a1) - 6)
        else
          if a0 = 5 then
            some 2
          else
            some a1
set_option maxRecDepth 100000 in
set_option maxHeartbeats 4000000 in
theorem c_X1_worth {Y : SYS} {a0 : Int32} {a1 : Int32} {μ : Mem} {x : Int32} (hf : f_X1_worth a0 a1 = some x) : KC Y yX1_worth cX1_worth 2 (some .int) 0 [.int a0, .int a1] μ (some (.int x)) μ := by
  refine KC.I RX1 [(0, .int a0), (1, .int a1)] (by decide) rfl (Nat.le_of_ble_eq_true rfl) rfl (fun G Γ ret => ?_)
  unfold f_X1_worth at hf
  refine g_iload_n Γ (pc := 0) 0 dX1_worth_0 rfl rfl ?_
  by_cases h1_0 : a0 = 1
  · replace hf := ite_t h1_0 hf
    refine g_tin Γ (pc := 1) (tgt := 36) 1 dX1_worth_1 h1_0 (by decide) (by decide) rfl rfl ?_
    refine g_iload_n Γ (pc := 36) 1 dX1_worth_36 rfl rfl ?_
    refine g_bipush Γ (pc := 37) (v := 9) dX1_worth_37 rfl ?_
    refine g_iadd Γ (pc := 39) dX1_worth_39 ?_
    exact rIr ret dX1_worth_40 hf
  · replace hf := ite_f h1_0 hf
    by_cases h1_1 : a0 = 2
    · replace hf := ite_t h1_1 hf
      refine g_tin Γ (pc := 1) (tgt := 48) 2 dX1_worth_1 h1_1 (by decide) (by decide) rfl rfl ?_
      refine g_bipush Γ (pc := 48) (v := 99) dX1_worth_48 rfl ?_
      refine g_iload_n Γ (pc := 50) 1 dX1_worth_50 rfl rfl ?_
      refine g_isub Γ (pc := 51) dX1_worth_51 ?_
      exact rIr ret dX1_worth_52 hf
    · replace hf := ite_f h1_1 hf
      by_cases h1_2 : a0 = 3
      · replace hf := ite_t h1_2 hf
        refine g_tin Γ (pc := 1) (tgt := 41) 3 dX1_worth_1 h1_2 (by decide) (by decide) rfl rfl ?_
        refine g_iconst Γ (pc := 41) (v := 2) dX1_worth_41 rfl ?_
        refine g_iload_n Γ (pc := 42) 1 dX1_worth_42 rfl rfl ?_
        refine g_bipush Γ (pc := 43) (v := 9) dX1_worth_43 rfl ?_
        refine g_iadd Γ (pc := 45) dX1_worth_45 ?_
        refine g_imul Γ (pc := 46) dX1_worth_46 ?_
        exact rIr ret dX1_worth_47 hf
      · replace hf := ite_f h1_2 hf
        by_cases h1_3 : a0 = 4
        · replace hf := ite_t h1_3 hf
          refine g_tin Γ (pc := 1) (tgt := 53) 4 dX1_worth_1 h1_3 (by decide) (by decide) rfl rfl ?_
          refine g_bipush Γ (pc := 53) (v := 99) dX1_worth_53 rfl ?_
          refine g_iload_n Γ (pc := 55) 1 dX1_worth_55 rfl rfl ?_
          refine g_isub Γ (pc := 56) dX1_worth_56 ?_
          refine g_bipush Γ (pc := 57) (v := 6) dX1_worth_57 rfl ?_
          refine g_isub Γ (pc := 59) dX1_worth_59 ?_
          exact rIr ret dX1_worth_60 hf
        · replace hf := ite_f h1_3 hf
          by_cases h1_4 : a0 = 5
          · replace hf := ite_t h1_4 hf
            refine g_tin Γ (pc := 1) (tgt := 61) 5 dX1_worth_1 h1_4 (by decide) (by decide) rfl rfl ?_
            refine g_iconst Γ (pc := 61) (v := 2) dX1_worth_61 rfl ?_
            exact rIr ret dX1_worth_62 hf
          · replace hf := ite_f h1_4 hf
            refine g_tableOut Γ (pc := 1) (tgt := 63) dX1_worth_1 (by have e0 := ne_ti (k := 1) rfl h1_0; have e1 := ne_ti (k := 2) rfl h1_1; have e2 := ne_ti (k := 3) rfl h1_2; have e3 := ne_ti (k := 4) rfl h1_3; have e4 := ne_ti (k := 5) rfl h1_4; omega) rfl ?_
            refine g_iload_n Γ (pc := 63) 1 dX1_worth_63 rfl rfl ?_
            exact rIr ret dX1_worth_64 hf
def f_X1_isOf_K4_26  : Option (Int32) :=
  some 1
def f_X1_isOf_K4_40  : Option (Int32) :=
  some 0
def f_X1_isOf_L4 (a1 : Int32) (x2_1 : Int32) (x3_2 : Int32) : Option ((Int32 × Int32) ⊕ (Unit ⊕ Unit)) :=
  if 5 < x3_2 then
    some (.inr (.inr ()))
  else
    if x2_1 < 0 then
      some (.inr (.inr ()))
    else
      if 6 ≤ x2_1 then
        some (.inr (.inr ()))
      else
        if x2_1 = a1 then
          some (.inr (.inl ()))
        else
          bn1 (ldM tabF 6 x2_1) fun v3 =>
          some (.inl (v3, x3_2 + 1))
def f_X1_isOf (a0 : Int32) (a1 : Int32) (μ : Mem) : Option (Int32) :=
  bn1 (lpF (fun v => f_X1_isOf_L4 a1 v.1 v.2) 4000 (a0, 0)) (fun x => cs2 x (fun y => f_X1_isOf_K4_26) (fun x0 => f_X1_isOf_K4_40))
set_option maxRecDepth 100000 in
set_option maxHeartbeats 4000000 in
theorem c_X1_isOf {Y : SYS} (hC : IsC Y) (hY : HasX Y) {a0 : Int32} {a1 : Int32} {μ : Mem} {x : Int32} (hf : f_X1_isOf a0 a1 μ = some x) : KC Y yX1_isOf cX1_isOf 4 (some .boolean) 0 [.int a0, .int a1] μ (some (.int x)) μ := by
  refine KC.Z RX1 [(0, .int a0), (1, .int a1)] (by decide) rfl (Nat.le_of_ble_eq_true rfl) rfl (fun G Γ ret => ?_)
  unfold f_X1_isOf at hf
  refine g_iload_n Γ (pc := 0) 0 dX1_isOf_0 rfl rfl ?_
  refine g_istore_n Γ (pc := 1) (lv' := [(2, .int a0), (0, .int a0), (1, .int a1)]) dX1_isOf_1 rfl (by decide) rfl ?_
  refine g_iconst Γ (pc := 2) (v := 0) dX1_isOf_2 rfl ?_
  refine g_istore_n Γ (pc := 3) (lv' := [(3, .int 0), (2, .int a0), (0, .int a0), (1, .int a1)]) dX1_isOf_3 rfl (by decide) rfl ?_
  have K_4_26 : f_X1_isOf_K4_26 = some x → G 26 [] [] μ := by
    intro hf
    unfold f_X1_isOf_K4_26 at hf
    refine g_iconst Γ (pc := 26) (v := 1) dX1_isOf_26 rfl ?_
    exact rZkr ret dX1_isOf_27 (Or.inr rfl) hf
  have K_4_40 : f_X1_isOf_K4_40 = some x → G 40 [] [] μ := by
    intro hf
    unfold f_X1_isOf_K4_40 at hf
    refine g_iconst Γ (pc := 40) (v := 0) dX1_isOf_40 rfl ?_
    exact rZkr ret dX1_isOf_41 (Or.inl rfl) hf
  refine g_sub Γ [3, 1, 0] rfl ?_
  refine lpF_s (P := fun (v : Int32 × Int32) => G 4 [(1, .int a1), (2, .int v.1), (3, .int v.2)] [] μ) hf (fun v z1 hf kI1 kX1 => ?_)
  obtain ⟨x2_1, x3_2⟩ := v
  replace hf : f_X1_isOf_L4 a1 x2_1 x3_2 = some z1 := hf
  show G 4 [(1, .int a1), (2, .int x2_1), (3, .int x3_2)] [] μ
  unfold f_X1_isOf_L4 at hf
  refine g_iload_n Γ (pc := 4) 2 dX1_isOf_4 rfl rfl ?_
  refine g_iconst Γ (pc := 5) (v := 5) dX1_isOf_5 rfl ?_
  refine g_icmp_gt Γ (pc := 6) (tgt := 40) dX1_isOf_6 rfl hf (fun hf => ?_) (fun hf => ?_)
  · refine g_sub Γ [] rfl ?_
    exact K_4_40  (kX1 (.inr ()) (Option.some.inj hf).symm)
  · refine g_iload_n Γ (pc := 9) 1 dX1_isOf_9 rfl rfl ?_
    refine g_if_lt Γ (pc := 10) (tgt := 40) dX1_isOf_10 rfl hf (fun hf => ?_) (fun hf => ?_)
    · refine g_sub Γ [] rfl ?_
      exact K_4_40  (kX1 (.inr ()) (Option.some.inj hf).symm)
    · refine g_iload_n Γ (pc := 13) 1 dX1_isOf_13 rfl rfl ?_
      refine g_tablen Γ (pc := 14) dX1_isOf_14 dX1_isOf_17 hY kF_X1_9 ?_
      refine g_icmp_ge Γ (pc := 18) (tgt := 40) dX1_isOf_18 rfl hf (fun hf => ?_) (fun hf => ?_)
      · refine g_sub Γ [] rfl ?_
        exact K_4_40  (kX1 (.inr ()) (Option.some.inj hf).symm)
      · refine g_iload_n Γ (pc := 21) 1 dX1_isOf_21 rfl rfl ?_
        refine g_iload_n Γ (pc := 22) 0 dX1_isOf_22 rfl rfl ?_
        refine g_icmp_ne Γ (pc := 23) (tgt := 28) dX1_isOf_23 rfl hf (fun hf => ?_) (fun hf => ?_)
        · refine g_tabld Γ (pc := 28) 1 dX1_isOf_28 dX1_isOf_31 dX1_isOf_32 hY kF_X1_9 rfl rfl hf (fun v3 hf => ?_)
          refine g_istore_n Γ (pc := 33) (lv' := [(2, .int v3), (1, .int a1), (3, .int x3_2)]) dX1_isOf_33 rfl (by decide) rfl ?_
          refine g_iinc Γ (pc := 34) (v := x3_2 + 1) (lv' := [(3, .int (x3_2 + 1)), (2, .int v3), (1, .int a1)]) 2 dX1_isOf_34 rfl rfl (by decide) rfl ?_
          refine g_goto Γ (pc := 37) (tgt := 4) dX1_isOf_37 rfl ?_
          refine g_sub Γ [2, 1, 0] rfl ?_
          exact kI1 (v3, x3_2 + 1) (Option.some.inj hf).symm
        · refine g_sub Γ [] rfl ?_
          exact K_4_26  (kX1 (.inl ()) (Option.some.inj hf).symm)
def f_X6_flip (b : Nat) (a0 : Int32) (μ : Mem) : Option (Mem) :=
  nm (mset μ b 6 ((μ b 6) ^^^ ((1 : Int32) <<< (a0 &&& 31)))) fun m1 =>
  some m1
set_option maxRecDepth 100000 in
set_option maxHeartbeats 4000000 in
theorem c_X6_flip {Y : SYS} (hC : IsC Y) {b : Nat} {a0 : Int32} {μ : Mem} {m : Mem} (hb : TownAt b) (hf : f_X6_flip b a0 μ = some m) : KC Y yX6_flip cX6_flip 2 none 0 [.ref (sq Y b), .int a0] μ none m := by
  refine KC.V RX6 [(0, .ref (sq Y b)), (1, .int a0)] (by decide) rfl (Nat.le_of_ble_eq_true rfl) rfl (fun G Γ ret => ?_)
  unfold f_X6_flip at hf
  refine g_aload_n Γ (pc := 0) 0 dX6_flip_0 rfl rfl ?_
  refine g_dup Γ (pc := 1) dX6_flip_1 rfl ?_
  refine g_get Γ (pc := 2) (v := .int (μ b 6)) dX6_flip_2 (C_town hC hb) fr_X6_28 rfl ?_
  refine g_iconst Γ (pc := 5) (v := 1) dX6_flip_5 rfl ?_
  refine g_iload_n Γ (pc := 6) 1 dX6_flip_6 rfl rfl ?_
  refine g_ishl Γ (pc := 7) dX6_flip_7 ?_
  refine g_ixor Γ (pc := 8) dX6_flip_8 ?_
  refine g_put Γ (pc := 9) dX6_flip_9 (C_town hC hb) fw_X6_28 (Nat.le_of_ble_eq_true rfl) rfl ?_
  refine g_nmm hf (fun m1 hf => ?_)
  exact rV ret dX6_flip_12 hf
def f_X6_areFriends (b : Nat) (a0 : Int32) (a1 : Int32) (μ : Mem) : Option (Int32) :=
  bn1 (ldM (μ (b + 4)) 10 a0) fun v1 =>
  if ((v1 >>> (a1 &&& 31)) &&& 1) = 1 then
    some 1
  else
    some 0
set_option maxRecDepth 100000 in
set_option maxHeartbeats 4000000 in
theorem c_X6_areFriends {Y : SYS} (hC : IsC Y) {b : Nat} {a0 : Int32} {a1 : Int32} {μ : Mem} {x : Int32} (hb : TownAt b) (hf : f_X6_areFriends b a0 a1 μ = some x) : KC Y yX6_areFriends cX6_areFriends 3 (some .boolean) 0 [.ref (sq Y b), .int a0, .int a1] μ (some (.int x)) μ := by
  refine KC.Z RX6 [(0, .ref (sq Y b)), (1, .int a0), (2, .int a1)] (by decide) rfl (Nat.le_of_ble_eq_true rfl) rfl (fun G Γ ret => ?_)
  unfold f_X6_areFriends at hf
  refine g_aload_n Γ (pc := 0) 0 dX6_areFriends_0 rfl rfl ?_
  refine g_get Γ (pc := 1) (v := .ref (sq Y (b + 4))) dX6_areFriends_1 (C_town hC hb) fr_X6_21 rfl ?_
  refine g_iload_n Γ (pc := 4) 1 dX6_areFriends_4 rfl rfl ?_
  refine g_iald Γ (pc := 5) dX6_areFriends_5 (C_town4 hC hb) hf (fun v1 hf => ?_)
  refine g_iload_n Γ (pc := 6) 2 dX6_areFriends_6 rfl rfl ?_
  refine g_ishr Γ (pc := 7) dX6_areFriends_7 ?_
  refine g_iconst Γ (pc := 8) (v := 1) dX6_areFriends_8 rfl ?_
  refine g_iand Γ (pc := 9) dX6_areFriends_9 ?_
  refine g_iconst Γ (pc := 10) (v := 1) dX6_areFriends_10 rfl ?_
  refine g_icmp_ne Γ (pc := 11) (tgt := 18) dX6_areFriends_11 rfl hf (fun hf => ?_) (fun hf => ?_)
  · refine g_iconst Γ (pc := 18) (v := 0) dX6_areFriends_18 rfl ?_
    exact rZkr ret dX6_areFriends_19 (Or.inl rfl) hf
  · refine g_iconst Γ (pc := 14) (v := 1) dX6_areFriends_14 rfl ?_
    refine g_goto Γ (pc := 15) (tgt := 19) dX6_areFriends_15 rfl ?_
    exact rZkr ret dX6_areFriends_19 (Or.inr rfl) hf
def f_X6_draw (b : Nat) (μ : Mem) : Option (Int32 × Mem) :=
  nm (mset μ b 13 (((μ b 13) * 1103515245) + 12345)) fun m1 =>
  some ((((m1 b 13).toUInt32 >>> ((8 : Int32).toUInt32 &&& Int32.toUInt32 31)).toInt32), m1)
set_option maxRecDepth 100000 in
set_option maxHeartbeats 4000000 in
theorem c_X6_draw {Y : SYS} (hC : IsC Y) {b : Nat} {μ : Mem} {x : Int32} {m : Mem} (hb : TownAt b) (hf : f_X6_draw b μ = some (x, m)) : KC Y yX6_draw cX6_draw 1 (some .int) 0 [.ref (sq Y b)] μ (some (.int x)) m := by
  refine KC.I RX6 [(0, .ref (sq Y b))] (by decide) rfl (Nat.le_of_ble_eq_true rfl) rfl (fun G Γ ret => ?_)
  unfold f_X6_draw at hf
  refine g_aload_n Γ (pc := 0) 0 dX6_draw_0 rfl rfl ?_
  refine g_aload_n Γ (pc := 1) 0 dX6_draw_1 rfl rfl ?_
  refine g_get Γ (pc := 2) (v := .int (μ b 13)) dX6_draw_2 (C_town hC hb) fr_X6_49 rfl ?_
  refine g_ldc Γ (pc := 5) dX6_draw_5 kK_X6_112 ?_
  refine g_imul Γ (pc := 7) dX6_draw_7 ?_
  refine g_sipush Γ (pc := 8) (v := 12345) dX6_draw_8 rfl ?_
  refine g_iadd Γ (pc := 11) dX6_draw_11 ?_
  refine g_put Γ (pc := 12) dX6_draw_12 (C_town hC hb) fw_X6_49 (Nat.le_of_ble_eq_true rfl) rfl ?_
  refine g_nmm hf (fun m1 hf => ?_)
  refine g_aload_n Γ (pc := 15) 0 dX6_draw_15 rfl rfl ?_
  refine g_get Γ (pc := 16) (v := .int (m1 b 13)) dX6_draw_16 (C_town hC hb) fr_X6_49 rfl ?_
  refine g_bipush Γ (pc := 19) (v := 8) dX6_draw_19 rfl ?_
  refine g_iushr Γ (pc := 21) dX6_draw_21 ?_
  exact rI ret dX6_draw_22 hf
def f_X6_offTogether_K4_26 (y1_1 : Int32) : Option (Int32) :=
  some y1_1
def f_X6_offTogether_L4 (b : Nat) (μ : Mem) (x1_2 : Int32) (x2_3 : Int32) : Option ((Int32 × Int32) ⊕ Int32) :=
  if (μ b 5) ≤ x2_3 then
    some (.inr x1_2)
  else
    bn1 (f_X6_offOf b x2_3 μ) fun v4 =>
    some (.inl ((x1_2 + v4), x2_3 + 1))
def f_X6_offTogether (b : Nat) (μ : Mem) : Option (Int32) :=
  bn1 (lpF (fun v => f_X6_offTogether_L4 b μ v.1 v.2) 4000 (0, 0)) (fun x => f_X6_offTogether_K4_26 x)
set_option maxRecDepth 100000 in
set_option maxHeartbeats 4000000 in
theorem c_X6_offTogether {Y : SYS} (hC : IsC Y) {b : Nat} {μ : Mem} {x : Int32} (hb : TownAt b) (hf : f_X6_offTogether b μ = some x) : KC Y yX6_offTogether cX6_offTogether 3 (some .int) 4 [.ref (sq Y b)] μ (some (.int x)) μ := by
  refine KC.I RX6 [(0, .ref (sq Y b))] (by decide) rfl (Nat.le_of_ble_eq_true rfl) rfl (fun G Γ ret => ?_)
  unfold f_X6_offTogether at hf
  refine g_iconst Γ (pc := 0) (v := 0) dX6_offTogether_0 rfl ?_
  refine g_istore_n Γ (pc := 1) (lv' := [(1, .int 0), (0, .ref (sq Y b))]) dX6_offTogether_1 rfl (by decide) rfl ?_
  refine g_iconst Γ (pc := 2) (v := 0) dX6_offTogether_2 rfl ?_
  refine g_istore_n Γ (pc := 3) (lv' := [(2, .int 0), (1, .int 0), (0, .ref (sq Y b))]) dX6_offTogether_3 rfl (by decide) rfl ?_
  have K_4_26 : ∀ (y1_1 : Int32), f_X6_offTogether_K4_26 y1_1 = some x → G 26 [(1, .int y1_1)] [] μ := by
    intro y1_1 hf
    unfold f_X6_offTogether_K4_26 at hf
    refine g_iload_n Γ (pc := 26) 0 dX6_offTogether_26 rfl rfl ?_
    exact rIr ret dX6_offTogether_27 hf
  refine g_sub Γ [2, 1, 0] rfl ?_
  refine lpF_s (P := fun (v : Int32 × Int32) => G 4 [(0, .ref (sq Y b)), (1, .int v.1), (2, .int v.2)] [] μ) hf (fun v z1 hf kI1 kX1 => ?_)
  obtain ⟨x1_2, x2_3⟩ := v
  replace hf : f_X6_offTogether_L4 b μ x1_2 x2_3 = some z1 := hf
  show G 4 [(0, .ref (sq Y b)), (1, .int x1_2), (2, .int x2_3)] [] μ
  unfold f_X6_offTogether_L4 at hf
  refine g_iload_n Γ (pc := 4) 2 dX6_offTogether_4 rfl rfl ?_
  refine g_aload_n Γ (pc := 5) 0 dX6_offTogether_5 rfl rfl ?_
  refine g_get Γ (pc := 6) (v := .int (μ b 5)) dX6_offTogether_6 (C_town hC hb) fr_X6_24 rfl ?_
  refine g_icmp_ge Γ (pc := 9) (tgt := 26) dX6_offTogether_9 rfl hf (fun hf => ?_) (fun hf => ?_)
  · refine g_sub Γ [1] rfl ?_
    exact K_4_26 x1_2 (kX1 x1_2 (Option.some.inj hf).symm)
  · refine g_iload_n Γ (pc := 12) 1 dX6_offTogether_12 rfl rfl ?_
    refine g_aload_n Γ (pc := 13) 0 dX6_offTogether_13 rfl rfl ?_
    refine g_iload_n Γ (pc := 14) 2 dX6_offTogether_14 rfl rfl ?_
    obtain ⟨v4, h1, hf⟩ := bn1_i hf
    refine g_callVI Γ (pc := 15) (as := [.int x2_3]) (st := [.int x1_2]) dX6_offTogether_15 (c_X6_offOf hC hb h1) (C_town hC hb) rfl mi_X6_offOf mv_X6_offOf kM_X6_83 rfl ⟨Nat.le_of_ble_eq_true rfl, Nat.le_of_ble_eq_true rfl⟩ rfl (Nat.le_of_ble_eq_true rfl) ?_
    refine g_iadd Γ (pc := 18) dX6_offTogether_18 ?_
    refine g_istore_n Γ (pc := 19) (lv' := [(1, .int (x1_2 + v4)), (0, .ref (sq Y b)), (2, .int x2_3)]) dX6_offTogether_19 rfl (by decide) rfl ?_
    refine g_iinc Γ (pc := 20) (v := x2_3 + 1) (lv' := [(2, .int (x2_3 + 1)), (1, .int (x1_2 + v4)), (0, .ref (sq Y b))]) 2 dX6_offTogether_20 rfl rfl (by decide) rfl ?_
    refine g_goto Γ (pc := 23) (tgt := 4) dX6_offTogether_23 rfl ?_
    refine g_sub Γ [2, 1, 0] rfl ?_
    exact kI1 ((x1_2 + v4), x2_3 + 1) (Option.some.inj hf).symm
def f_X6_unruly_K4_37 (y2_1 : Int32) : Option (Int32) :=
  some y2_1
def f_X6_unruly_J31 (x3_3 : Int32) (x2_5 : Int32) : Option ((Int32 × Int32) ⊕ Int32) :=
  some (.inl (x2_5, x3_3 + 1))
def f_X6_unruly_L4 (b : Nat) (a0 : Int32) (μ : Mem) (x2_2 : Int32) (x3_3 : Int32) : Option ((Int32 × Int32) ⊕ Int32) :=
  if (μ b 5) ≤ x3_3 then
    some (.inr x2_2)
  else
    bn1 (f_X6_off b x3_3 a0 μ) fun v4 =>
    if v4 ≤ (μ b 7) then
      f_X6_unruly_J31 x3_3 x2_2
    else
      nm (x2_2 ||| ((1 : Int32) <<< (x3_3 &&& 31))) fun e6 =>
      f_X6_unruly_J31 x3_3 e6
def f_X6_unruly (b : Nat) (a0 : Int32) (μ : Mem) : Option (Int32) :=
  bn1 (lpF (fun v => f_X6_unruly_L4 b a0 μ v.1 v.2) 4000 (0, 0)) (fun x => f_X6_unruly_K4_37 x)
set_option maxRecDepth 100000 in
set_option maxHeartbeats 4000000 in
theorem c_X6_unruly {Y : SYS} (hC : IsC Y) {b : Nat} {a0 : Int32} {μ : Mem} {x : Int32} (hb : TownAt b) (hf : f_X6_unruly b a0 μ = some x) : KC Y yX6_unruly cX6_unruly 4 (some .int) 3 [.ref (sq Y b), .int a0] μ (some (.int x)) μ := by
  refine KC.I RX6 [(0, .ref (sq Y b)), (1, .int a0)] (by decide) rfl (Nat.le_of_ble_eq_true rfl) rfl (fun G Γ ret => ?_)
  unfold f_X6_unruly at hf
  refine g_iconst Γ (pc := 0) (v := 0) dX6_unruly_0 rfl ?_
  refine g_istore_n Γ (pc := 1) (lv' := [(2, .int 0), (0, .ref (sq Y b)), (1, .int a0)]) dX6_unruly_1 rfl (by decide) rfl ?_
  refine g_iconst Γ (pc := 2) (v := 0) dX6_unruly_2 rfl ?_
  refine g_istore_n Γ (pc := 3) (lv' := [(3, .int 0), (2, .int 0), (0, .ref (sq Y b)), (1, .int a0)]) dX6_unruly_3 rfl (by decide) rfl ?_
  have K_4_37 : ∀ (y2_1 : Int32), f_X6_unruly_K4_37 y2_1 = some x → G 37 [(2, .int y2_1)] [] μ := by
    intro y2_1 hf
    unfold f_X6_unruly_K4_37 at hf
    refine g_iload_n Γ (pc := 37) 0 dX6_unruly_37 rfl rfl ?_
    exact rIr ret dX6_unruly_38 hf
  refine g_sub Γ [2, 3, 1, 0] rfl ?_
  refine lpF_s (P := fun (v : Int32 × Int32) => G 4 [(0, .ref (sq Y b)), (1, .int a0), (2, .int v.1), (3, .int v.2)] [] μ) hf (fun v z1 hf kI1 kX1 => ?_)
  obtain ⟨x2_2, x3_3⟩ := v
  replace hf : f_X6_unruly_L4 b a0 μ x2_2 x3_3 = some z1 := hf
  show G 4 [(0, .ref (sq Y b)), (1, .int a0), (2, .int x2_2), (3, .int x3_3)] [] μ
  unfold f_X6_unruly_L4 at hf
  refine g_iload_n Γ (pc := 4) 3 dX6_unruly_4 rfl rfl ?_
  refine g_aload_n Γ (pc := 5) 0 dX6_unruly_5 rfl rfl ?_
  refine g_get Γ (pc := 6) (v := .int (μ b 5)) dX6_unruly_6 (C_town hC hb) fr_X6_24 rfl ?_
  refine g_icmp_ge Γ (pc := 9) (tgt := 37) dX6_unruly_9 rfl hf (fun hf => ?_) (fun hf => ?_)
  · refine g_sub Γ [2] rfl ?_
    exact K_4_37 x2_2 (kX1 x2_2 (Option.some.inj hf).symm)
  · refine g_aload_n Γ (pc := 12) 0 dX6_unruly_12 rfl rfl ?_
    refine g_iload_n Γ (pc := 13) 3 dX6_unruly_13 rfl rfl ?_
    refine g_iload_n Γ (pc := 14) 1 dX6_unruly_14 rfl rfl ?_
    obtain ⟨v4, h1, hf⟩ := bn1_i hf
    refine g_callVI Γ (pc := 15) (as := [.int x3_3, .int a0]) (st := []) dX6_unruly_15 (c_X6_off hC hb h1) (C_town hC hb) rfl mi_X6_off mv_X6_off kM_X6_80 rfl ⟨Nat.le_of_ble_eq_true rfl, Nat.le_of_ble_eq_true rfl⟩ rfl (Nat.le_of_ble_eq_true rfl) ?_
    refine g_aload_n Γ (pc := 18) 0 dX6_unruly_18 rfl rfl ?_
    refine g_get Γ (pc := 19) (v := .int (μ b 7)) dX6_unruly_19 (C_town hC hb) fr_X6_31 rfl ?_
    have J_31 : ∀ (x2_5 : Int32), f_X6_unruly_J31 x3_3 x2_5 = some z1 → G 31 [(0, .ref (sq Y b)), (1, .int a0), (2, .int x2_5), (3, .int x3_3)] [] μ := by
      intro x2_5 hf
      unfold f_X6_unruly_J31 at hf
      refine g_iinc Γ (pc := 31) (v := x3_3 + 1) (lv' := [(3, .int (x3_3 + 1)), (0, .ref (sq Y b)), (1, .int a0), (2, .int x2_5)]) 3 dX6_unruly_31 rfl rfl (by decide) rfl ?_
      refine g_goto Γ (pc := 34) (tgt := 4) dX6_unruly_34 rfl ?_
      refine g_sub Γ [1, 2, 3, 0] rfl ?_
      exact kI1 (x2_5, x3_3 + 1) (Option.some.inj hf).symm
    refine g_icmp_le Γ (pc := 22) (tgt := 31) dX6_unruly_22 rfl hf (fun hf => ?_) (fun hf => ?_)
    · refine g_sub Γ [0, 1, 2, 3] rfl ?_
      exact J_31 x2_2 hf
    · refine g_iload_n Γ (pc := 25) 2 dX6_unruly_25 rfl rfl ?_
      refine g_iconst Γ (pc := 26) (v := 1) dX6_unruly_26 rfl ?_
      refine g_iload_n Γ (pc := 27) 3 dX6_unruly_27 rfl rfl ?_
      refine g_ishl Γ (pc := 28) dX6_unruly_28 ?_
      refine g_ior Γ (pc := 29) dX6_unruly_29 ?_
      refine g_nmi hf (fun e6 hf => ?_)
      refine g_istore_n Γ (pc := 30) (lv' := [(2, .int e6), (0, .ref (sq Y b)), (1, .int a0), (3, .int x3_3)]) dX6_unruly_30 rfl (by decide) rfl ?_
      refine g_sub Γ [1, 2, 0, 3] rfl ?_
      exact J_31 e6 hf
def f_X6_oddOnes_K4_34 (y1_1 : Int32) : Option (Int32) :=
  some y1_1
def f_X6_oddOnes_L4 (b : Nat) (μ : Mem) (x1_2 : Int32) (x2_3 : Int32) : Option ((Int32 × Int32) ⊕ Int32) :=
  if (μ b 5) ≤ x2_3 then
    some (.inr x1_2)
  else
    bn1 (ldM (μ (b + 4)) 10 x2_3) fun v4 =>
    bn1 (f_J6_bitCount_0f7a4 v4) fun v5 =>
    nm (x1_2 ||| ((v5 &&& 1) <<< (x2_3 &&& 31))) fun e6 =>
    some (.inl (e6, x2_3 + 1))
def f_X6_oddOnes (b : Nat) (μ : Mem) : Option (Int32) :=
  bn1 (lpF (fun v => f_X6_oddOnes_L4 b μ v.1 v.2) 4000 (0, 0)) (fun x => f_X6_oddOnes_K4_34 x)
set_option maxRecDepth 100000 in
set_option maxHeartbeats 4000000 in
theorem c_X6_oddOnes {Y : SYS} (hC : IsC Y) {b : Nat} {μ : Mem} {x : Int32} (hb : TownAt b) (hf : f_X6_oddOnes b μ = some x) : KC Y yX6_oddOnes cX6_oddOnes 3 (some .int) 1 [.ref (sq Y b)] μ (some (.int x)) μ := by
  refine KC.I RX6 [(0, .ref (sq Y b))] (by decide) rfl (Nat.le_of_ble_eq_true rfl) rfl (fun G Γ ret => ?_)
  unfold f_X6_oddOnes at hf
  refine g_iconst Γ (pc := 0) (v := 0) dX6_oddOnes_0 rfl ?_
  refine g_istore_n Γ (pc := 1) (lv' := [(1, .int 0), (0, .ref (sq Y b))]) dX6_oddOnes_1 rfl (by decide) rfl ?_
  refine g_iconst Γ (pc := 2) (v := 0) dX6_oddOnes_2 rfl ?_
  refine g_istore_n Γ (pc := 3) (lv' := [(2, .int 0), (1, .int 0), (0, .ref (sq Y b))]) dX6_oddOnes_3 rfl (by decide) rfl ?_
  have K_4_34 : ∀ (y1_1 : Int32), f_X6_oddOnes_K4_34 y1_1 = some x → G 34 [(1, .int y1_1)] [] μ := by
    intro y1_1 hf
    unfold f_X6_oddOnes_K4_34 at hf
    refine g_iload_n Γ (pc := 34) 0 dX6_oddOnes_34 rfl rfl ?_
    exact rIr ret dX6_oddOnes_35 hf
  refine g_sub Γ [2, 1, 0] rfl ?_
  refine lpF_s (P := fun (v : Int32 × Int32) => G 4 [(0, .ref (sq Y b)), (1, .int v.1), (2, .int v.2)] [] μ) hf (fun v z1 hf kI1 kX1 => ?_)
  obtain ⟨x1_2, x2_3⟩ := v
  replace hf : f_X6_oddOnes_L4 b μ x1_2 x2_3 = some z1 := hf
  show G 4 [(0, .ref (sq Y b)), (1, .int x1_2), (2, .int x2_3)] [] μ
  unfold f_X6_oddOnes_L4 at hf
  refine g_iload_n Γ (pc := 4) 2 dX6_oddOnes_4 rfl rfl ?_
  refine g_aload_n Γ (pc := 5) 0 dX6_oddOnes_5 rfl rfl ?_
  refine g_get Γ (pc := 6) (v := .int (μ b 5)) dX6_oddOnes_6 (C_town hC hb) fr_X6_24 rfl ?_
  refine g_icmp_ge Γ (pc := 9) (tgt := 34) dX6_oddOnes_9 rfl hf (fun hf => ?_) (fun hf => ?_)
  · refine g_sub Γ [1] rfl ?_
    exact K_4_34 x1_2 (kX1 x1_2 (Option.some.inj hf).symm)
  · refine g_iload_n Γ (pc := 12) 1 dX6_oddOnes_12 rfl rfl ?_
    refine g_aload_n Γ (pc := 13) 0 dX6_oddOnes_13 rfl rfl ?_
    refine g_get Γ (pc := 14) (v := .ref (sq Y (b + 4))) dX6_oddOnes_14 (C_town hC hb) fr_X6_21 rfl ?_
    refine g_iload_n Γ (pc := 17) 2 dX6_oddOnes_17 rfl rfl ?_
    refine g_iald Γ (pc := 18) dX6_oddOnes_18 (C_town4 hC hb) hf (fun v4 hf => ?_)
    obtain ⟨v5, h1, hf⟩ := bn1_i hf
    refine g_callSI Γ (pc := 19) (as := [.int v4]) (st := [.int x1_2]) dX6_oddOnes_19 (c_J6_bitCount_0f7a4 h1) mi_J6_bitCount_0f7a4 ms_J6_bitCount_0f7a4 kM_X6_65 rfl ⟨Nat.le_of_ble_eq_true rfl, Nat.le_of_ble_eq_true rfl⟩ rfl (Nat.le_of_ble_eq_true rfl) ?_
    refine g_iconst Γ (pc := 22) (v := 1) dX6_oddOnes_22 rfl ?_
    refine g_iand Γ (pc := 23) dX6_oddOnes_23 ?_
    refine g_iload_n Γ (pc := 24) 2 dX6_oddOnes_24 rfl rfl ?_
    refine g_ishl Γ (pc := 25) dX6_oddOnes_25 ?_
    refine g_ior Γ (pc := 26) dX6_oddOnes_26 ?_
    refine g_nmi hf (fun e6 hf => ?_)
    refine g_istore_n Γ (pc := 27) (lv' := [(1, .int e6), (0, .ref (sq Y b)), (2, .int x2_3)]) dX6_oddOnes_27 rfl (by decide) rfl ?_
    refine g_iinc Γ (pc := 28) (v := x2_3 + 1) (lv' := [(2, .int (x2_3 + 1)), (1, .int e6), (0, .ref (sq Y b))]) 2 dX6_oddOnes_28 rfl rfl (by decide) rfl ?_
    refine g_goto Γ (pc := 31) (tgt := 4) dX6_oddOnes_31 rfl ?_
    refine g_sub Γ [2, 1, 0] rfl ?_
    exact kI1 (e6, x2_3 + 1) (Option.some.inj hf).symm
def f_X6_fixedOnes_K4_34 (y1_1 : Int32) : Option (Int32) :=
  some y1_1
def f_X6_fixedOnes_J28 (x2_3 : Int32) (x1_5 : Int32) : Option ((Int32 × Int32) ⊕ Int32) :=
  some (.inl (x1_5, x2_3 + 1))
def f_X6_fixedOnes_L4 (b : Nat) (μ : Mem) (x1_2 : Int32) (x2_3 : Int32) : Option ((Int32 × Int32) ⊕ Int32) :=
  if (μ b 5) ≤ x2_3 then
    some (.inr x1_2)
  else
    bn1 (ldM (μ (b + 1)) 10 x2_3) fun v4 =>
    if v4 = 5 then
      nm (x1_2 ||| ((1 : Int32) <<< (x2_3 &&& 31))) fun e6 =>
      f_X6_fixedOnes_J28 x2_3 e6
    else
      f_X6_fixedOnes_J28 x2_3 x1_2
def f_X6_fixedOnes (b : Nat) (μ : Mem) : Option (Int32) :=
  bn1 (lpF (fun v => f_X6_fixedOnes_L4 b μ v.1 v.2) 4000 (0, 0)) (fun x => f_X6_fixedOnes_K4_34 x)
set_option maxRecDepth 100000 in
set_option maxHeartbeats 4000000 in
theorem c_X6_fixedOnes {Y : SYS} (hC : IsC Y) {b : Nat} {μ : Mem} {x : Int32} (hb : TownAt b) (hf : f_X6_fixedOnes b μ = some x) : KC Y yX6_fixedOnes cX6_fixedOnes 3 (some .int) 0 [.ref (sq Y b)] μ (some (.int x)) μ := by
  refine KC.I RX6 [(0, .ref (sq Y b))] (by decide) rfl (Nat.le_of_ble_eq_true rfl) rfl (fun G Γ ret => ?_)
  unfold f_X6_fixedOnes at hf
  refine g_iconst Γ (pc := 0) (v := 0) dX6_fixedOnes_0 rfl ?_
  refine g_istore_n Γ (pc := 1) (lv' := [(1, .int 0), (0, .ref (sq Y b))]) dX6_fixedOnes_1 rfl (by decide) rfl ?_
  refine g_iconst Γ (pc := 2) (v := 0) dX6_fixedOnes_2 rfl ?_
  refine g_istore_n Γ (pc := 3) (lv' := [(2, .int 0), (1, .int 0), (0, .ref (sq Y b))]) dX6_fixedOnes_3 rfl (by decide) rfl ?_
  have K_4_34 : ∀ (y1_1 : Int32), f_X6_fixedOnes_K4_34 y1_1 = some x → G 34 [(1, .int y1_1)] [] μ := by
    intro y1_1 hf
    unfold f_X6_fixedOnes_K4_34 at hf
    refine g_iload_n Γ (pc := 34) 0 dX6_fixedOnes_34 rfl rfl ?_
    exact rIr ret dX6_fixedOnes_35 hf
  refine g_sub Γ [2, 1, 0] rfl ?_
  refine lpF_s (P := fun (v : Int32 × Int32) => G 4 [(0, .ref (sq Y b)), (1, .int v.1), (2, .int v.2)] [] μ) hf (fun v z1 hf kI1 kX1 => ?_)
  obtain ⟨x1_2, x2_3⟩ := v
  replace hf : f_X6_fixedOnes_L4 b μ x1_2 x2_3 = some z1 := hf
  show G 4 [(0, .ref (sq Y b)), (1, .int x1_2), (2, .int x2_3)] [] μ
  unfold f_X6_fixedOnes_L4 at hf
  refine g_iload_n Γ (pc := 4) 2 dX6_fixedOnes_4 rfl rfl ?_
  refine g_aload_n Γ (pc := 5) 0 dX6_fixedOnes_5 rfl rfl ?_
  refine g_get Γ (pc := 6) (v := .int (μ b 5)) dX6_fixedOnes_6 (C_town hC hb) fr_X6_24 rfl ?_
  refine g_icmp_ge Γ (pc := 9) (tgt := 34) dX6_fixedOnes_9 rfl hf (fun hf => ?_) (fun hf => ?_)
  · refine g_sub Γ [1] rfl ?_
    exact K_4_34 x1_2 (kX1 x1_2 (Option.some.inj hf).symm)
  · refine g_aload_n Γ (pc := 12) 0 dX6_fixedOnes_12 rfl rfl ?_
    refine g_get Γ (pc := 13) (v := .ref (sq Y (b + 1))) dX6_fixedOnes_13 (C_town hC hb) fr_X6_9 rfl ?_
    refine g_iload_n Γ (pc := 16) 2 dX6_fixedOnes_16 rfl rfl ?_
    refine g_iald Γ (pc := 17) dX6_fixedOnes_17 (C_town1 hC hb) hf (fun v4 hf => ?_)
    refine g_iconst Γ (pc := 18) (v := 5) dX6_fixedOnes_18 rfl ?_
    have J_28 : ∀ (x1_5 : Int32), f_X6_fixedOnes_J28 x2_3 x1_5 = some z1 → G 28 [(0, .ref (sq Y b)), (1, .int x1_5), (2, .int x2_3)] [] μ := by
      intro x1_5 hf
      unfold f_X6_fixedOnes_J28 at hf
      refine g_iinc Γ (pc := 28) (v := x2_3 + 1) (lv' := [(2, .int (x2_3 + 1)), (0, .ref (sq Y b)), (1, .int x1_5)]) 2 dX6_fixedOnes_28 rfl rfl (by decide) rfl ?_
      refine g_goto Γ (pc := 31) (tgt := 4) dX6_fixedOnes_31 rfl ?_
      refine g_sub Γ [1, 2, 0] rfl ?_
      exact kI1 (x1_5, x2_3 + 1) (Option.some.inj hf).symm
    refine g_icmp_ne Γ (pc := 19) (tgt := 28) dX6_fixedOnes_19 rfl hf (fun hf => ?_) (fun hf => ?_)
    · refine g_sub Γ [0, 1, 2] rfl ?_
      exact J_28 x1_2 hf
    · refine g_iload_n Γ (pc := 22) 1 dX6_fixedOnes_22 rfl rfl ?_
      refine g_iconst Γ (pc := 23) (v := 1) dX6_fixedOnes_23 rfl ?_
      refine g_iload_n Γ (pc := 24) 2 dX6_fixedOnes_24 rfl rfl ?_
      refine g_ishl Γ (pc := 25) dX6_fixedOnes_25 ?_
      refine g_ior Γ (pc := 26) dX6_fixedOnes_26 ?_
      refine g_nmi hf (fun e6 hf => ?_)
      refine g_istore_n Γ (pc := 27) (lv' := [(1, .int e6), (0, .ref (sq Y b)), (2, .int x2_3)]) dX6_fixedOnes_27 rfl (by decide) rfl ?_
      refine g_sub Γ [1, 0, 2] rfl ?_
      exact J_28 e6 hf
def f_X2_scan_K25_77 (m4 : Mem) : Option (Mem) :=
  some m4
def f_X2_scan_J70 (x3_5 : Int32) (m6 : Mem) (s8 : Int32) : Option ((Int32 × Mem) ⊕ Mem) :=
  bn1 (stM m6 37 1024 x3_5 s8) fun m9 =>
  some (.inl (x3_5 + 1, m9))
def f_X2_scan_J49 (b0 : Nat) (x3_5 : Int32) (m6 : Mem) (s7 : Int32) : Option ((Int32 × Mem) ⊕ Mem) :=
  if s7 = 0 then
    f_X2_scan_J70 x3_5 m6 (-1)
  else
    bn1 (f_X6_unruly b0 x3_5 m6) fun v10 =>
    f_X2_scan_J70 x3_5 m6 v10
def f_X2_scan_L25 (b0 : Nat) (v1 : Int32) (x3_5 : Int32) (m6 : Mem) : Option ((Int32 × Mem) ⊕ Mem) :=
  if (m6 36 1) ≤ x3_5 then
    some (.inr m6)
  else
    if ((x3_5 ^^^ (m6 b0 6)) &&& v1) = 0 then
      f_X2_scan_J49 b0 x3_5 m6 1
    else
      f_X2_scan_J49 b0 x3_5 m6 0
def f_X2_scan (b0 : Nat) (μ : Mem) : Option (Mem) :=
  bn1 (f_X6_fixedOnes b0 μ) fun v1 =>
  nm (if 1024 < ((1 : Int32) <<< ((μ b0 5) &&& 31)) then 1024 else ((1 : Int32) <<< ((μ b0 5) &&& 31))) fun e2 =>
  nm (mset μ 36 1 e2) fun m3 =>
  bn1 (lpF (fun v => f_X2_scan_L25 b0 v1 v.1 v.2) 4000 (0, m3)) (fun x => f_X2_scan_K25_77 x)
set_option maxRecDepth 100000 in
set_option maxHeartbeats 4000000 in
theorem c_X2_scan {Y : SYS} (hC : IsC Y) {b0 : Nat} {μ : Mem} {m : Mem} (hb0 : TownAt b0) (hf : f_X2_scan b0 μ = some m) : KC Y yX2_scan cX2_scan 5 none 4 [.ref (sq Y 36), .ref (sq Y b0)] μ none m := by
  refine KC.V RX2 [(0, .ref (sq Y 36)), (1, .ref (sq Y b0))] (by decide) rfl (Nat.le_of_ble_eq_true rfl) rfl (fun G Γ ret => ?_)
  unfold f_X2_scan at hf
  refine g_aload_n Γ (pc := 0) 1 dX2_scan_0 rfl rfl ?_
  obtain ⟨v1, h1, hf⟩ := bn1_i hf
  refine g_callVI Γ (pc := 1) (as := []) (st := []) dX2_scan_1 (c_X6_fixedOnes hC hb0 h1) (C_town hC hb0) rfl mi_X6_fixedOnes mv_X6_fixedOnes kM_X2_19 rfl ⟨Nat.le_of_ble_eq_true rfl, Nat.le_of_ble_eq_true rfl⟩ rfl (Nat.le_of_ble_eq_true rfl) ?_
  refine g_istore_n Γ (pc := 4) (lv' := [(2, .int v1), (0, .ref (sq Y 36)), (1, .ref (sq Y b0))]) dX2_scan_4 rfl (by decide) rfl ?_
  refine g_aload_n Γ (pc := 5) 1 dX2_scan_5 rfl rfl ?_
  refine g_iconst Γ (pc := 6) (v := 1) dX2_scan_6 rfl ?_
  refine g_aload_n Γ (pc := 7) 2 dX2_scan_7 rfl rfl ?_
  refine g_get Γ (pc := 8) (v := .int (μ b0 5)) dX2_scan_8 (C_town hC hb0) fr_X2_25 rfl ?_
  refine g_ishl Γ (pc := 11) dX2_scan_11 ?_
  refine g_aload_n Γ (pc := 12) 1 dX2_scan_12 rfl rfl ?_
  refine g_get Γ (pc := 13) (v := .ref (sq Y 37)) dX2_scan_13 (C_order hC) fr_X2_9 rfl ?_
  refine g_alen Γ (pc := 16) (v := 1024) dX2_scan_16 (C_37 hC) rfl ?_
  refine g_min Γ (pc := 17) dX2_scan_17 kM_X2_28 kS_Math_min kI_J9 kC_Math_min (Nat.le_of_ble_eq_true rfl) (Nat.le_of_ble_eq_true rfl) ?_
  refine g_nmi hf (fun e2 hf => ?_)
  refine g_put Γ (pc := 20) dX2_scan_20 (C_order hC) fw_X2_15 (Nat.le_of_ble_eq_true rfl) rfl ?_
  refine g_nmm hf (fun m3 hf => ?_)
  refine g_iconst Γ (pc := 23) (v := 0) dX2_scan_23 rfl ?_
  refine g_istore_n Γ (pc := 24) (lv' := [(3, .int 0), (2, .int v1), (0, .ref (sq Y 36)), (1, .ref (sq Y b0))]) dX2_scan_24 rfl (by decide) rfl ?_
  have K_25_77 : ∀ (m4 : Mem), f_X2_scan_K25_77 m4 = some m → G 77 [] [] m4 := by
    intro m4 hf
    unfold f_X2_scan_K25_77 at hf
    exact rV ret dX2_scan_77 hf
  refine g_sub Γ [2, 3, 1, 0] rfl ?_
  refine lpF_s (P := fun (v : Int32 × Mem) => G 25 [(0, .ref (sq Y 36)), (1, .ref (sq Y b0)), (2, .int v1), (3, .int v.1)] [] v.2) hf (fun v z1 hf kI1 kX1 => ?_)
  obtain ⟨x3_5, m6⟩ := v
  replace hf : f_X2_scan_L25 b0 v1 x3_5 m6 = some z1 := hf
  show G 25 [(0, .ref (sq Y 36)), (1, .ref (sq Y b0)), (2, .int v1), (3, .int x3_5)] [] m6
  unfold f_X2_scan_L25 at hf
  refine g_iload_n Γ (pc := 25) 3 dX2_scan_25 rfl rfl ?_
  refine g_aload_n Γ (pc := 26) 0 dX2_scan_26 rfl rfl ?_
  refine g_get Γ (pc := 27) (v := .int (m6 36 1)) dX2_scan_27 (C_order hC) fr_X2_15 rfl ?_
  refine g_icmp_ge Γ (pc := 30) (tgt := 77) dX2_scan_30 rfl hf (fun hf => ?_) (fun hf => ?_)
  · refine g_sub Γ [] rfl ?_
    exact K_25_77 m6 (kX1 m6 (Option.some.inj hf).symm)
  · refine g_iload_n Γ (pc := 33) 3 dX2_scan_33 rfl rfl ?_
    refine g_aload_n Γ (pc := 34) 1 dX2_scan_34 rfl rfl ?_
    refine g_get Γ (pc := 35) (v := .int (m6 b0 6)) dX2_scan_35 (C_town hC hb0) fr_X2_34 rfl ?_
    refine g_ixor Γ (pc := 38) dX2_scan_38 ?_
    refine g_iload_n Γ (pc := 39) 2 dX2_scan_39 rfl rfl ?_
    refine g_iand Γ (pc := 40) dX2_scan_40 ?_
    have J_49 : ∀ (s7 : Int32), f_X2_scan_J49 b0 x3_5 m6 s7 = some z1 → G 49 [(0, .ref (sq Y 36)), (1, .ref (sq Y b0)), (2, .int v1), (3, .int x3_5)] [.int s7] m6 := by
      intro s7 hf
      unfold f_X2_scan_J49 at hf
      refine g_istore Γ (pc := 49) (lv' := [(4, .int s7), (0, .ref (sq Y 36)), (1, .ref (sq Y b0)), (2, .int v1), (3, .int x3_5)]) dX2_scan_49 (by decide) rfl ?_
      refine g_aload_n Γ (pc := 51) 1 dX2_scan_51 rfl rfl ?_
      refine g_get Γ (pc := 52) (v := .ref (sq Y 37)) dX2_scan_52 (C_order hC) fr_X2_9 rfl ?_
      refine g_iload_n Γ (pc := 55) 4 dX2_scan_55 rfl rfl ?_
      refine g_iload Γ (pc := 56) 0 dX2_scan_56 rfl ?_
      have J_70 : ∀ (s8 : Int32), f_X2_scan_J70 x3_5 m6 s8 = some z1 → G 70 [(0, .ref (sq Y 36)), (1, .ref (sq Y b0)), (2, .int v1), (3, .int x3_5)] [.int s8, .int x3_5, .ref (sq Y 37)] m6 := by
        intro s8 hf
        unfold f_X2_scan_J70 at hf
        refine g_iast Γ (pc := 70) dX2_scan_70 (C_37 hC) hf (fun m9 hf => ?_)
        refine g_iinc Γ (pc := 71) (v := x3_5 + 1) (lv' := [(3, .int (x3_5 + 1)), (0, .ref (sq Y 36)), (1, .ref (sq Y b0)), (2, .int v1)]) 3 dX2_scan_71 rfl rfl (by decide) rfl ?_
        refine g_goto Γ (pc := 74) (tgt := 25) dX2_scan_74 rfl ?_
        refine g_sub Γ [1, 2, 3, 0] rfl ?_
        exact kI1 (x3_5 + 1, m9) (Option.some.inj hf).symm
      refine g_if_eq Γ (pc := 58) (tgt := 69) dX2_scan_58 rfl hf (fun hf => ?_) (fun hf => ?_)
      · refine g_iconst Γ (pc := 69) (v := (-1)) dX2_scan_69 rfl ?_
        refine g_sub Γ [1, 2, 3, 4] rfl ?_
        exact J_70 (-1) hf
      · refine g_aload_n Γ (pc := 61) 2 dX2_scan_61 rfl rfl ?_
        refine g_iload_n Γ (pc := 62) 4 dX2_scan_62 rfl rfl ?_
        obtain ⟨v10, h1, hf⟩ := bn1_i hf
        refine g_callVI Γ (pc := 63) (as := [.int x3_5]) (st := [.int x3_5, .ref (sq Y 37)]) dX2_scan_63 (c_X6_unruly hC hb0 h1) (C_town hC hb0) rfl mi_X6_unruly mv_X6_unruly kM_X2_37 rfl ⟨Nat.le_of_ble_eq_true rfl, Nat.le_of_ble_eq_true rfl⟩ rfl (Nat.le_of_ble_eq_true rfl) ?_
        refine g_goto Γ (pc := 66) (tgt := 70) dX2_scan_66 rfl ?_
        refine g_sub Γ [1, 2, 3, 4] rfl ?_
        exact J_70 v10 hf
    refine g_if_ne Γ (pc := 41) (tgt := 48) dX2_scan_41 rfl hf (fun hf => ?_) (fun hf => ?_)
    · refine g_iconst Γ (pc := 48) (v := 0) dX2_scan_48 rfl ?_
      refine g_sub Γ [0, 1, 2, 3] rfl ?_
      exact J_49 0 hf
    · refine g_iconst Γ (pc := 44) (v := 1) dX2_scan_44 rfl ?_
      refine g_goto Γ (pc := 45) (tgt := 49) dX2_scan_45 rfl ?_
      refine g_sub Γ [0, 1, 2, 3] rfl ?_
      exact J_49 1 hf
def f_X2_howMany_K4_30 (y1_1 : Int32) : Option (Int32) :=
  some y1_1
def f_X2_howMany_J24 (x2_3 : Int32) (x1_5 : Int32) : Option ((Int32 × Int32) ⊕ Int32) :=
  some (.inl (x1_5, x2_3 + 1))
def f_X2_howMany_L4 (μ : Mem) (x1_2 : Int32) (x2_3 : Int32) : Option ((Int32 × Int32) ⊕ Int32) :=
  if (μ 36 1) ≤ x2_3 then
    some (.inr x1_2)
  else
    bn1 (ldM (μ 37) 1024 x2_3) fun v4 =>
    if v4 = 0 then
      f_X2_howMany_J24 x2_3 (x1_2 + 1)
    else
      f_X2_howMany_J24 x2_3 x1_2
def f_X2_howMany (μ : Mem) : Option (Int32) :=
  bn1 (lpF (fun v => f_X2_howMany_L4 μ v.1 v.2) 4000 (0, 0)) (fun x => f_X2_howMany_K4_30 x)
set_option maxRecDepth 100000 in
set_option maxHeartbeats 4000000 in
theorem c_X2_howMany {Y : SYS} (hC : IsC Y) {μ : Mem} {x : Int32} (hf : f_X2_howMany μ = some x) : KC Y yX2_howMany cX2_howMany 3 (some .int) 0 [.ref (sq Y 36)] μ (some (.int x)) μ := by
  refine KC.I RX2 [(0, .ref (sq Y 36))] (by decide) rfl (Nat.le_of_ble_eq_true rfl) rfl (fun G Γ ret => ?_)
  unfold f_X2_howMany at hf
  refine g_iconst Γ (pc := 0) (v := 0) dX2_howMany_0 rfl ?_
  refine g_istore_n Γ (pc := 1) (lv' := [(1, .int 0), (0, .ref (sq Y 36))]) dX2_howMany_1 rfl (by decide) rfl ?_
  refine g_iconst Γ (pc := 2) (v := 0) dX2_howMany_2 rfl ?_
  refine g_istore_n Γ (pc := 3) (lv' := [(2, .int 0), (1, .int 0), (0, .ref (sq Y 36))]) dX2_howMany_3 rfl (by decide) rfl ?_
  have K_4_30 : ∀ (y1_1 : Int32), f_X2_howMany_K4_30 y1_1 = some x → G 30 [(1, .int y1_1)] [] μ := by
    intro y1_1 hf
    unfold f_X2_howMany_K4_30 at hf
    refine g_iload_n Γ (pc := 30) 0 dX2_howMany_30 rfl rfl ?_
    exact rIr ret dX2_howMany_31 hf
  refine g_sub Γ [2, 1, 0] rfl ?_
  refine lpF_s (P := fun (v : Int32 × Int32) => G 4 [(0, .ref (sq Y 36)), (1, .int v.1), (2, .int v.2)] [] μ) hf (fun v z1 hf kI1 kX1 => ?_)
  obtain ⟨x1_2, x2_3⟩ := v
  replace hf : f_X2_howMany_L4 μ x1_2 x2_3 = some z1 := hf
  show G 4 [(0, .ref (sq Y 36)), (1, .int x1_2), (2, .int x2_3)] [] μ
  unfold f_X2_howMany_L4 at hf
  refine g_iload_n Γ (pc := 4) 2 dX2_howMany_4 rfl rfl ?_
  refine g_aload_n Γ (pc := 5) 0 dX2_howMany_5 rfl rfl ?_
  refine g_get Γ (pc := 6) (v := .int (μ 36 1)) dX2_howMany_6 (C_order hC) fr_X2_15 rfl ?_
  refine g_icmp_ge Γ (pc := 9) (tgt := 30) dX2_howMany_9 rfl hf (fun hf => ?_) (fun hf => ?_)
  · refine g_sub Γ [1] rfl ?_
    exact K_4_30 x1_2 (kX1 x1_2 (Option.some.inj hf).symm)
  · refine g_aload_n Γ (pc := 12) 0 dX2_howMany_12 rfl rfl ?_
    refine g_get Γ (pc := 13) (v := .ref (sq Y 37)) dX2_howMany_13 (C_order hC) fr_X2_9 rfl ?_
    refine g_iload_n Γ (pc := 16) 2 dX2_howMany_16 rfl rfl ?_
    refine g_iald Γ (pc := 17) dX2_howMany_17 (C_37 hC) hf (fun v4 hf => ?_)
    have J_24 : ∀ (x1_5 : Int32), f_X2_howMany_J24 x2_3 x1_5 = some z1 → G 24 [(0, .ref (sq Y 36)), (1, .int x1_5), (2, .int x2_3)] [] μ := by
      intro x1_5 hf
      unfold f_X2_howMany_J24 at hf
      refine g_iinc Γ (pc := 24) (v := x2_3 + 1) (lv' := [(2, .int (x2_3 + 1)), (0, .ref (sq Y 36)), (1, .int x1_5)]) 2 dX2_howMany_24 rfl rfl (by decide) rfl ?_
      refine g_goto Γ (pc := 27) (tgt := 4) dX2_howMany_27 rfl ?_
      refine g_sub Γ [1, 2, 0] rfl ?_
      exact kI1 (x1_5, x2_3 + 1) (Option.some.inj hf).symm
    refine g_if_ne Γ (pc := 18) (tgt := 24) dX2_howMany_18 rfl hf (fun hf => ?_) (fun hf => ?_)
    · refine g_sub Γ [0, 1, 2] rfl ?_
      exact J_24 x1_2 hf
    · refine g_iinc Γ (pc := 21) (v := x1_2 + 1) (lv' := [(1, .int (x1_2 + 1)), (0, .ref (sq Y 36)), (2, .int x2_3)]) 1 dX2_howMany_21 rfl rfl (by decide) rfl ?_
      refine g_sub Γ [1, 0, 2] rfl ?_
      exact J_24 (x1_2 + 1) hf
def f_X2_priceOf_K4_35 (y2_1 : Int32) : Option (Int32) :=
  some y2_1
def f_X2_priceOf_J29 (x3_3 : Int32) (x2_4 : Int32) : Option ((Int32 × Int32) ⊕ Int32) :=
  some (.inl (x2_4, x3_3 + 1))
def f_X2_priceOf_L4 (b0 : Nat) (a1 : Int32) (μ : Mem) (x2_2 : Int32) (x3_3 : Int32) : Option ((Int32 × Int32) ⊕ Int32) :=
  if (μ b0 5) ≤ x3_3 then
    some (.inr x2_2)
  else
    if ((a1 >>> (x3_3 &&& 31)) &&& 1) = 1 then
      bn1 (f_X6_asks b0 x3_3 μ) fun v5 =>
      f_X2_priceOf_J29 x3_3 (x2_2 + v5)
    else
      f_X2_priceOf_J29 x3_3 x2_2
def f_X2_priceOf (b0 : Nat) (a1 : Int32) (μ : Mem) : Option (Int32) :=
  bn1 (lpF (fun v => f_X2_priceOf_L4 b0 a1 μ v.1 v.2) 4000 (0, 0)) (fun x => f_X2_priceOf_K4_35 x)
set_option maxRecDepth 100000 in
set_option maxHeartbeats 4000000 in
theorem c_X2_priceOf {Y : SYS} (hC : IsC Y) {b0 : Nat} {a1 : Int32} {μ : Mem} {x : Int32} (hb0 : TownAt b0) (hf : f_X2_priceOf b0 a1 μ = some x) : KC Y yX2_priceOf cX2_priceOf 4 (some .int) 2 [.ref (sq Y b0), .int a1] μ (some (.int x)) μ := by
  refine KC.I RX2 [(0, .ref (sq Y b0)), (1, .int a1)] (by decide) rfl (Nat.le_of_ble_eq_true rfl) rfl (fun G Γ ret => ?_)
  unfold f_X2_priceOf at hf
  refine g_iconst Γ (pc := 0) (v := 0) dX2_priceOf_0 rfl ?_
  refine g_istore_n Γ (pc := 1) (lv' := [(2, .int 0), (0, .ref (sq Y b0)), (1, .int a1)]) dX2_priceOf_1 rfl (by decide) rfl ?_
  refine g_iconst Γ (pc := 2) (v := 0) dX2_priceOf_2 rfl ?_
  refine g_istore_n Γ (pc := 3) (lv' := [(3, .int 0), (2, .int 0), (0, .ref (sq Y b0)), (1, .int a1)]) dX2_priceOf_3 rfl (by decide) rfl ?_
  have K_4_35 : ∀ (y2_1 : Int32), f_X2_priceOf_K4_35 y2_1 = some x → G 35 [(2, .int y2_1)] [] μ := by
    intro y2_1 hf
    unfold f_X2_priceOf_K4_35 at hf
    refine g_iload_n Γ (pc := 35) 0 dX2_priceOf_35 rfl rfl ?_
    exact rIr ret dX2_priceOf_36 hf
  refine g_sub Γ [2, 3, 1, 0] rfl ?_
  refine lpF_s (P := fun (v : Int32 × Int32) => G 4 [(0, .ref (sq Y b0)), (1, .int a1), (2, .int v.1), (3, .int v.2)] [] μ) hf (fun v z1 hf kI1 kX1 => ?_)
  obtain ⟨x2_2, x3_3⟩ := v
  replace hf : f_X2_priceOf_L4 b0 a1 μ x2_2 x3_3 = some z1 := hf
  show G 4 [(0, .ref (sq Y b0)), (1, .int a1), (2, .int x2_2), (3, .int x3_3)] [] μ
  unfold f_X2_priceOf_L4 at hf
  refine g_iload_n Γ (pc := 4) 3 dX2_priceOf_4 rfl rfl ?_
  refine g_aload_n Γ (pc := 5) 0 dX2_priceOf_5 rfl rfl ?_
  refine g_get Γ (pc := 6) (v := .int (μ b0 5)) dX2_priceOf_6 (C_town hC hb0) fr_X2_25 rfl ?_
  refine g_icmp_ge Γ (pc := 9) (tgt := 35) dX2_priceOf_9 rfl hf (fun hf => ?_) (fun hf => ?_)
  · refine g_sub Γ [2] rfl ?_
    exact K_4_35 x2_2 (kX1 x2_2 (Option.some.inj hf).symm)
  · refine g_iload_n Γ (pc := 12) 1 dX2_priceOf_12 rfl rfl ?_
    refine g_iload_n Γ (pc := 13) 3 dX2_priceOf_13 rfl rfl ?_
    refine g_ishr Γ (pc := 14) dX2_priceOf_14 ?_
    refine g_iconst Γ (pc := 15) (v := 1) dX2_priceOf_15 rfl ?_
    refine g_iand Γ (pc := 16) dX2_priceOf_16 ?_
    refine g_iconst Γ (pc := 17) (v := 1) dX2_priceOf_17 rfl ?_
    have J_29 : ∀ (x2_4 : Int32), f_X2_priceOf_J29 x3_3 x2_4 = some z1 → G 29 [(0, .ref (sq Y b0)), (1, .int a1), (2, .int x2_4), (3, .int x3_3)] [] μ := by
      intro x2_4 hf
      unfold f_X2_priceOf_J29 at hf
      refine g_iinc Γ (pc := 29) (v := x3_3 + 1) (lv' := [(3, .int (x3_3 + 1)), (0, .ref (sq Y b0)), (1, .int a1), (2, .int x2_4)]) 3 dX2_priceOf_29 rfl rfl (by decide) rfl ?_
      refine g_goto Γ (pc := 32) (tgt := 4) dX2_priceOf_32 rfl ?_
      refine g_sub Γ [1, 2, 3, 0] rfl ?_
      exact kI1 (x2_4, x3_3 + 1) (Option.some.inj hf).symm
    refine g_icmp_ne Γ (pc := 18) (tgt := 29) dX2_priceOf_18 rfl hf (fun hf => ?_) (fun hf => ?_)
    · refine g_sub Γ [0, 1, 2, 3] rfl ?_
      exact J_29 x2_2 hf
    · refine g_iload_n Γ (pc := 21) 2 dX2_priceOf_21 rfl rfl ?_
      refine g_aload_n Γ (pc := 22) 0 dX2_priceOf_22 rfl rfl ?_
      refine g_iload_n Γ (pc := 23) 3 dX2_priceOf_23 rfl rfl ?_
      obtain ⟨v5, h1, hf⟩ := bn1_i hf
      refine g_callVI Γ (pc := 24) (as := [.int x3_3]) (st := [.int x2_2]) dX2_priceOf_24 (c_X6_asks hC hb0 h1) (C_town hC hb0) rfl mi_X6_asks mv_X6_asks kM_X2_54 rfl ⟨Nat.le_of_ble_eq_true rfl, Nat.le_of_ble_eq_true rfl⟩ rfl (Nat.le_of_ble_eq_true rfl) ?_
      refine g_iadd Γ (pc := 27) dX2_priceOf_27 ?_
      refine g_istore_n Γ (pc := 28) (lv' := [(2, .int (x2_2 + v5)), (0, .ref (sq Y b0)), (1, .int a1), (3, .int x3_3)]) dX2_priceOf_28 rfl (by decide) rfl ?_
      refine g_sub Γ [1, 2, 0, 3] rfl ?_
      exact J_29 (x2_2 + v5) hf
def f_X2_cost (b0 : Nat) (a1 : Int32) (a2 : Int32) (μ : Mem) : Option (Int32) :=
  if a2 = 0 then
    bn1 (f_J6_bitCount_0f7a4 (a1 ^^^ (μ b0 6))) fun v4 =>
    some v4
  else
    if a2 = 1 then
      bn1 (f_X2_priceOf b0 (a1 ^^^ (μ b0 6)) μ) fun v3 =>
      some v3
    else
      if a2 = 2 then
        bn1 (f_J6_bitCount_0f7a4 a1) fun v2 =>
        some (-v2)
      else
        bn1 (f_J6_bitCount_0f7a4 a1) fun v1 =>
        some v1
set_option maxRecDepth 100000 in
set_option maxHeartbeats 4000000 in
theorem c_X2_cost {Y : SYS} (hC : IsC Y) {b0 : Nat} {a1 : Int32} {a2 : Int32} {μ : Mem} {x : Int32} (hb0 : TownAt b0) (hf : f_X2_cost b0 a1 a2 μ = some x) : KC Y yX2_cost cX2_cost 3 (some .int) 3 [.ref (sq Y b0), .int a1, .int a2] μ (some (.int x)) μ := by
  refine KC.I RX2 [(0, .ref (sq Y b0)), (1, .int a1), (2, .int a2)] (by decide) rfl (Nat.le_of_ble_eq_true rfl) rfl (fun G Γ ret => ?_)
  unfold f_X2_cost at hf
  refine g_iload_n Γ (pc := 0) 2 dX2_cost_0 rfl rfl ?_
  by_cases h1_0 : a2 = 0
  · replace hf := ite_t h1_0 hf
    refine g_tin Γ (pc := 1) (tgt := 28) 0 dX2_cost_1 h1_0 (by decide) (by decide) rfl rfl ?_
    refine g_iload_n Γ (pc := 28) 1 dX2_cost_28 rfl rfl ?_
    refine g_aload_n Γ (pc := 29) 0 dX2_cost_29 rfl rfl ?_
    refine g_get Γ (pc := 30) (v := .int (μ b0 6)) dX2_cost_30 (C_town hC hb0) fr_X2_34 rfl ?_
    refine g_ixor Γ (pc := 33) dX2_cost_33 ?_
    obtain ⟨v4, h1, hf⟩ := bn1_i hf
    refine g_callSI Γ (pc := 34) (as := [.int (a1 ^^^ (μ b0 6))]) (st := []) dX2_cost_34 (c_J6_bitCount_0f7a4 h1) mi_J6_bitCount_0f7a4 ms_J6_bitCount_0f7a4 kM_X2_45 rfl ⟨Nat.le_of_ble_eq_true rfl, Nat.le_of_ble_eq_true rfl⟩ rfl (Nat.le_of_ble_eq_true rfl) ?_
    exact rIr ret dX2_cost_37 hf
  · replace hf := ite_f h1_0 hf
    by_cases h1_1 : a2 = 1
    · replace hf := ite_t h1_1 hf
      refine g_tin Γ (pc := 1) (tgt := 38) 1 dX2_cost_1 h1_1 (by decide) (by decide) rfl rfl ?_
      refine g_aload_n Γ (pc := 38) 0 dX2_cost_38 rfl rfl ?_
      refine g_iload_n Γ (pc := 39) 1 dX2_cost_39 rfl rfl ?_
      refine g_aload_n Γ (pc := 40) 0 dX2_cost_40 rfl rfl ?_
      refine g_get Γ (pc := 41) (v := .int (μ b0 6)) dX2_cost_41 (C_town hC hb0) fr_X2_34 rfl ?_
      refine g_ixor Γ (pc := 44) dX2_cost_44 ?_
      obtain ⟨v3, h1, hf⟩ := bn1_i hf
      refine g_callSI Γ (pc := 45) (as := [.ref (sq Y b0), .int (a1 ^^^ (μ b0 6))]) (st := []) dX2_cost_45 (c_X2_priceOf hC hb0 h1) mi_X2_priceOf ms_X2_priceOf kM_X2_50 rfl ⟨Nat.le_of_ble_eq_true rfl, Nat.le_of_ble_eq_true rfl⟩ rfl (Nat.le_of_ble_eq_true rfl) ?_
      exact rIr ret dX2_cost_48 hf
    · replace hf := ite_f h1_1 hf
      by_cases h1_2 : a2 = 2
      · replace hf := ite_t h1_2 hf
        refine g_tin Γ (pc := 1) (tgt := 49) 2 dX2_cost_1 h1_2 (by decide) (by decide) rfl rfl ?_
        refine g_iload_n Γ (pc := 49) 1 dX2_cost_49 rfl rfl ?_
        obtain ⟨v2, h1, hf⟩ := bn1_i hf
        refine g_callSI Γ (pc := 50) (as := [.int a1]) (st := []) dX2_cost_50 (c_J6_bitCount_0f7a4 h1) mi_J6_bitCount_0f7a4 ms_J6_bitCount_0f7a4 kM_X2_45 rfl ⟨Nat.le_of_ble_eq_true rfl, Nat.le_of_ble_eq_true rfl⟩ rfl (Nat.le_of_ble_eq_true rfl) ?_
        refine g_ineg Γ (pc := 53) dX2_cost_53 ?_
        exact rIr ret dX2_cost_54 hf
      · replace hf := ite_f h1_2 hf
        refine g_tableOut Γ (pc := 1) (tgt := 55) dX2_cost_1 (by have e0 := ne_ti (k := 0) rfl h1_0; have e1 := ne_ti (k := 1) rfl h1_1; have e2 := ne_ti (k := 2) rfl h1_2; omega) rfl ?_
        refine g_iload_n Γ (pc := 55) 1 dX2_cost_55 rfl rfl ?_
        obtain ⟨v1, h1, hf⟩ := bn1_i hf
        refine g_callSI Γ (pc := 56) (as := [.int a1]) (st := []) dX2_cost_56 (c_J6_bitCount_0f7a4 h1) mi_J6_bitCount_0f7a4 ms_J6_bitCount_0f7a4 kM_X2_45 rfl ⟨Nat.le_of_ble_eq_true rfl, Nat.le_of_ble_eq_true rfl⟩ rfl (Nat.le_of_ble_eq_true rfl) ?_
        exact rIr ret dX2_cost_59 hf
def f_X2_chosen_K9_63 (y3_1 : Int32) : Option (Int32) :=
  some y3_1
def f_X2_chosen_J57 (x5_4 : Int32) (x3_6 : Int32) (x4_7 : Int32) : Option ((Int32 × Int32 × Int32) ⊕ Int32) :=
  some (.inl (x3_6, x4_7, x5_4 + 1))
def f_X2_chosen_J50 (x5_4 : Int32) (v8 : Int32) : Option ((Int32 × Int32 × Int32) ⊕ Int32) :=
  f_X2_chosen_J57 x5_4 x5_4 v8
def f_X2_chosen_L9 (b0 : Nat) (a1 : Int32) (μ : Mem) (x3_2 : Int32) (x4_3 : Int32) (x5_4 : Int32) : Option ((Int32 × Int32 × Int32) ⊕ Int32) :=
  if (μ 36 1) ≤ x5_4 then
    some (.inr x3_2)
  else
    bn1 (ldM (μ 37) 1024 x5_4) fun v5 =>
    if v5 = 0 then
      bn1 (f_X2_cost b0 x5_4 a1 μ) fun v8 =>
      if x3_2 = (-1000000005) then
        f_X2_chosen_J50 x5_4 v8
      else
        if x4_3 ≤ v8 then
          f_X2_chosen_J57 x5_4 x3_2 x4_3
        else
          f_X2_chosen_J50 x5_4 v8
    else
      f_X2_chosen_J57 x5_4 x3_2 x4_3
def f_X2_chosen (b0 : Nat) (a1 : Int32) (μ : Mem) : Option (Int32) :=
  bn1 (lpF (fun v => f_X2_chosen_L9 b0 a1 μ v.1 v.2.1 v.2.2) 4000 ((-1000000005), 0, 0)) (fun x => f_X2_chosen_K9_63 x)
set_option maxRecDepth 100000 in
set_option maxHeartbeats 4000000 in
theorem c_X2_chosen {Y : SYS} (hC : IsC Y) {b0 : Nat} {a1 : Int32} {μ : Mem} {x : Int32} (hb0 : TownAt b0) (hf : f_X2_chosen b0 a1 μ = some x) : KC Y yX2_chosen cX2_chosen 7 (some .int) 4 [.ref (sq Y 36), .ref (sq Y b0), .int a1] μ (some (.int x)) μ := by
  refine KC.I RX2 [(0, .ref (sq Y 36)), (1, .ref (sq Y b0)), (2, .int a1)] (by decide) rfl (Nat.le_of_ble_eq_true rfl) rfl (fun G Γ ret => ?_)
  unfold f_X2_chosen at hf
  refine g_ldc Γ (pc := 0) dX2_chosen_0 kK_X2_40 ?_
  refine g_istore_n Γ (pc := 2) (lv' := [(3, .int (-1000000005)), (0, .ref (sq Y 36)), (1, .ref (sq Y b0)), (2, .int a1)]) dX2_chosen_2 rfl (by decide) rfl ?_
  refine g_iconst Γ (pc := 3) (v := 0) dX2_chosen_3 rfl ?_
  refine g_istore Γ (pc := 4) (lv' := [(4, .int 0), (3, .int (-1000000005)), (0, .ref (sq Y 36)), (1, .ref (sq Y b0)), (2, .int a1)]) dX2_chosen_4 (by decide) rfl ?_
  refine g_iconst Γ (pc := 6) (v := 0) dX2_chosen_6 rfl ?_
  refine g_istore Γ (pc := 7) (lv' := [(5, .int 0), (4, .int 0), (3, .int (-1000000005)), (0, .ref (sq Y 36)), (1, .ref (sq Y b0)), (2, .int a1)]) dX2_chosen_7 (by decide) rfl ?_
  have K_9_63 : ∀ (y3_1 : Int32), f_X2_chosen_K9_63 y3_1 = some x → G 63 [(3, .int y3_1)] [] μ := by
    intro y3_1 hf
    unfold f_X2_chosen_K9_63 at hf
    refine g_iload_n Γ (pc := 63) 0 dX2_chosen_63 rfl rfl ?_
    exact rIr ret dX2_chosen_64 hf
  refine g_sub Γ [3, 4, 5, 2, 1, 0] rfl ?_
  refine lpF_s (P := fun (v : Int32 × Int32 × Int32) => G 9 [(0, .ref (sq Y 36)), (1, .ref (sq Y b0)), (2, .int a1), (3, .int v.1), (4, .int v.2.1), (5, .int v.2.2)] [] μ) hf (fun v z1 hf kI1 kX1 => ?_)
  obtain ⟨x3_2, x4_3, x5_4⟩ := v
  replace hf : f_X2_chosen_L9 b0 a1 μ x3_2 x4_3 x5_4 = some z1 := hf
  show G 9 [(0, .ref (sq Y 36)), (1, .ref (sq Y b0)), (2, .int a1), (3, .int x3_2), (4, .int x4_3), (5, .int x5_4)] [] μ
  unfold f_X2_chosen_L9 at hf
  refine g_iload Γ (pc := 9) 5 dX2_chosen_9 rfl ?_
  refine g_aload_n Γ (pc := 11) 0 dX2_chosen_11 rfl rfl ?_
  refine g_get Γ (pc := 12) (v := .int (μ 36 1)) dX2_chosen_12 (C_order hC) fr_X2_15 rfl ?_
  refine g_icmp_ge Γ (pc := 15) (tgt := 63) dX2_chosen_15 rfl hf (fun hf => ?_) (fun hf => ?_)
  · refine g_sub Γ [3] rfl ?_
    exact K_9_63 x3_2 (kX1 x3_2 (Option.some.inj hf).symm)
  · refine g_aload_n Γ (pc := 18) 0 dX2_chosen_18 rfl rfl ?_
    refine g_get Γ (pc := 19) (v := .ref (sq Y 37)) dX2_chosen_19 (C_order hC) fr_X2_9 rfl ?_
    refine g_iload Γ (pc := 22) 5 dX2_chosen_22 rfl ?_
    refine g_iald Γ (pc := 24) dX2_chosen_24 (C_37 hC) hf (fun v5 hf => ?_)
    have J_57 : ∀ (x3_6 : Int32) (x4_7 : Int32), f_X2_chosen_J57 x5_4 x3_6 x4_7 = some z1 → G 57 [(0, .ref (sq Y 36)), (1, .ref (sq Y b0)), (2, .int a1), (3, .int x3_6), (4, .int x4_7), (5, .int x5_4)] [] μ := by
      intro x3_6 x4_7 hf
      unfold f_X2_chosen_J57 at hf
      refine g_iinc Γ (pc := 57) (v := x5_4 + 1) (lv' := [(5, .int (x5_4 + 1)), (0, .ref (sq Y 36)), (1, .ref (sq Y b0)), (2, .int a1), (3, .int x3_6), (4, .int x4_7)]) 5 dX2_chosen_57 rfl rfl (by decide) rfl ?_
      refine g_goto Γ (pc := 60) (tgt := 9) dX2_chosen_60 rfl ?_
      refine g_sub Γ [1, 2, 3, 4, 5, 0] rfl ?_
      exact kI1 (x3_6, x4_7, x5_4 + 1) (Option.some.inj hf).symm
    refine g_if_ne Γ (pc := 25) (tgt := 57) dX2_chosen_25 rfl hf (fun hf => ?_) (fun hf => ?_)
    · refine g_sub Γ [0, 1, 2, 3, 4, 5] rfl ?_
      exact J_57 x3_2 x4_3 hf
    · refine g_aload_n Γ (pc := 28) 1 dX2_chosen_28 rfl rfl ?_
      refine g_iload Γ (pc := 29) 5 dX2_chosen_29 rfl ?_
      refine g_iload_n Γ (pc := 31) 2 dX2_chosen_31 rfl rfl ?_
      obtain ⟨v8, h1, hf⟩ := bn1_i hf
      refine g_callSI Γ (pc := 32) (as := [.ref (sq Y b0), .int x5_4, .int a1]) (st := []) dX2_chosen_32 (c_X2_cost hC hb0 h1) mi_X2_cost ms_X2_cost kM_X2_41 rfl ⟨Nat.le_of_ble_eq_true rfl, Nat.le_of_ble_eq_true rfl⟩ rfl (Nat.le_of_ble_eq_true rfl) ?_
      refine g_istore Γ (pc := 35) (lv' := [(6, .int v8), (0, .ref (sq Y 36)), (1, .ref (sq Y b0)), (2, .int a1), (3, .int x3_2), (4, .int x4_3), (5, .int x5_4)]) dX2_chosen_35 (by decide) rfl ?_
      refine g_iload_n Γ (pc := 37) 4 dX2_chosen_37 rfl rfl ?_
      refine g_ldc Γ (pc := 38) dX2_chosen_38 kK_X2_40 ?_
      have J_50 : f_X2_chosen_J50 x5_4 v8 = some z1 → G 50 [(0, .ref (sq Y 36)), (1, .ref (sq Y b0)), (2, .int a1), (5, .int x5_4), (6, .int v8)] [] μ := by
        intro hf
        unfold f_X2_chosen_J50 at hf
        refine g_iload Γ (pc := 50) 4 dX2_chosen_50 rfl ?_
        refine g_istore Γ (pc := 52) (lv' := [(4, .int v8), (0, .ref (sq Y 36)), (1, .ref (sq Y b0)), (2, .int a1), (5, .int x5_4), (6, .int v8)]) dX2_chosen_52 (by decide) rfl ?_
        refine g_iload Γ (pc := 54) 4 dX2_chosen_54 rfl ?_
        refine g_istore_n Γ (pc := 56) (lv' := [(3, .int x5_4), (4, .int v8), (0, .ref (sq Y 36)), (1, .ref (sq Y b0)), (2, .int a1), (5, .int x5_4), (6, .int v8)]) dX2_chosen_56 rfl (by decide) rfl ?_
        refine g_sub Γ [2, 3, 4, 0, 1, 5] rfl ?_
        exact J_57 x5_4 v8 hf
      refine g_icmp_eq Γ (pc := 40) (tgt := 50) dX2_chosen_40 rfl hf (fun hf => ?_) (fun hf => ?_)
      · refine g_sub Γ [1, 2, 3, 6, 0] rfl ?_
        exact J_50 hf
      · refine g_iload Γ (pc := 43) 0 dX2_chosen_43 rfl ?_
        refine g_iload Γ (pc := 45) 5 dX2_chosen_45 rfl ?_
        refine g_icmp_ge Γ (pc := 47) (tgt := 57) dX2_chosen_47 rfl hf (fun hf => ?_) (fun hf => ?_)
        · refine g_sub Γ [1, 2, 3, 4, 5, 6] rfl ?_
          exact J_57 x3_2 x4_3 hf
        · refine g_sub Γ [1, 2, 3, 6, 0] rfl ?_
          exact J_50 hf
def f_X2_free_K6_46 (y1_1 : Int32) (y2_2 : Int32) : Option (Int32) :=
  some (y1_1 &&& y2_2)
def f_X2_free_J40 (x3_5 : Int32) (x1_7 : Int32) (x2_8 : Int32) : Option ((Int32 × Int32 × Int32) ⊕ (Int32 × Int32)) :=
  some (.inl (x1_7, x2_8, x3_5 + 1))
def f_X2_free_L6 (μ : Mem) (x1_3 : Int32) (x2_4 : Int32) (x3_5 : Int32) : Option ((Int32 × Int32 × Int32) ⊕ (Int32 × Int32)) :=
  if (μ 36 1) ≤ x3_5 then
    some (.inr (x1_3, x2_4))
  else
    bn1 (ldM (μ 37) 1024 x3_5) fun v6 =>
    if v6 = 0 then
      nm (x2_4 ||| (((μ 36 1) - 1) &&& (x3_5 ^^^ (-1)))) fun e9 =>
      f_X2_free_J40 x3_5 (x1_3 ||| x3_5) e9
    else
      f_X2_free_J40 x3_5 x1_3 x2_4
def f_X2_free (μ : Mem) : Option (Int32) :=
  bn1 (lpF (fun v => f_X2_free_L6 μ v.1 v.2.1 v.2.2) 4000 (0, 0, 0)) (fun x => f_X2_free_K6_46 x.1 x.2)
set_option maxRecDepth 100000 in
set_option maxHeartbeats 4000000 in
theorem c_X2_free {Y : SYS} (hC : IsC Y) {μ : Mem} {x : Int32} (hf : f_X2_free μ = some x) : KC Y yX2_free cX2_free 4 (some .int) 0 [.ref (sq Y 36)] μ (some (.int x)) μ := by
  refine KC.I RX2 [(0, .ref (sq Y 36))] (by decide) rfl (Nat.le_of_ble_eq_true rfl) rfl (fun G Γ ret => ?_)
  unfold f_X2_free at hf
  refine g_iconst Γ (pc := 0) (v := 0) dX2_free_0 rfl ?_
  refine g_istore_n Γ (pc := 1) (lv' := [(1, .int 0), (0, .ref (sq Y 36))]) dX2_free_1 rfl (by decide) rfl ?_
  refine g_iconst Γ (pc := 2) (v := 0) dX2_free_2 rfl ?_
  refine g_istore_n Γ (pc := 3) (lv' := [(2, .int 0), (1, .int 0), (0, .ref (sq Y 36))]) dX2_free_3 rfl (by decide) rfl ?_
  refine g_iconst Γ (pc := 4) (v := 0) dX2_free_4 rfl ?_
  refine g_istore_n Γ (pc := 5) (lv' := [(3, .int 0), (2, .int 0), (1, .int 0), (0, .ref (sq Y 36))]) dX2_free_5 rfl (by decide) rfl ?_
  have K_6_46 : ∀ (y1_1 : Int32) (y2_2 : Int32), f_X2_free_K6_46 y1_1 y2_2 = some x → G 46 [(1, .int y1_1), (2, .int y2_2)] [] μ := by
    intro y1_1 y2_2 hf
    unfold f_X2_free_K6_46 at hf
    refine g_iload_n Γ (pc := 46) 0 dX2_free_46 rfl rfl ?_
    refine g_iload_n Γ (pc := 47) 1 dX2_free_47 rfl rfl ?_
    refine g_iand Γ (pc := 48) dX2_free_48 ?_
    exact rIr ret dX2_free_49 hf
  refine g_sub Γ [3, 2, 1, 0] rfl ?_
  refine lpF_s (P := fun (v : Int32 × Int32 × Int32) => G 6 [(0, .ref (sq Y 36)), (1, .int v.1), (2, .int v.2.1), (3, .int v.2.2)] [] μ) hf (fun v z1 hf kI1 kX1 => ?_)
  obtain ⟨x1_3, x2_4, x3_5⟩ := v
  replace hf : f_X2_free_L6 μ x1_3 x2_4 x3_5 = some z1 := hf
  show G 6 [(0, .ref (sq Y 36)), (1, .int x1_3), (2, .int x2_4), (3, .int x3_5)] [] μ
  unfold f_X2_free_L6 at hf
  refine g_iload_n Γ (pc := 6) 3 dX2_free_6 rfl rfl ?_
  refine g_aload_n Γ (pc := 7) 0 dX2_free_7 rfl rfl ?_
  refine g_get Γ (pc := 8) (v := .int (μ 36 1)) dX2_free_8 (C_order hC) fr_X2_15 rfl ?_
  refine g_icmp_ge Γ (pc := 11) (tgt := 46) dX2_free_11 rfl hf (fun hf => ?_) (fun hf => ?_)
  · refine g_sub Γ [1, 2] rfl ?_
    exact K_6_46 x1_3 x2_4 (kX1 (x1_3, x2_4) (Option.some.inj hf).symm)
  · refine g_aload_n Γ (pc := 14) 0 dX2_free_14 rfl rfl ?_
    refine g_get Γ (pc := 15) (v := .ref (sq Y 37)) dX2_free_15 (C_order hC) fr_X2_9 rfl ?_
    refine g_iload_n Γ (pc := 18) 3 dX2_free_18 rfl rfl ?_
    refine g_iald Γ (pc := 19) dX2_free_19 (C_37 hC) hf (fun v6 hf => ?_)
    have J_40 : ∀ (x1_7 : Int32) (x2_8 : Int32), f_X2_free_J40 x3_5 x1_7 x2_8 = some z1 → G 40 [(0, .ref (sq Y 36)), (1, .int x1_7), (2, .int x2_8), (3, .int x3_5)] [] μ := by
      intro x1_7 x2_8 hf
      unfold f_X2_free_J40 at hf
      refine g_iinc Γ (pc := 40) (v := x3_5 + 1) (lv' := [(3, .int (x3_5 + 1)), (0, .ref (sq Y 36)), (1, .int x1_7), (2, .int x2_8)]) 3 dX2_free_40 rfl rfl (by decide) rfl ?_
      refine g_goto Γ (pc := 43) (tgt := 6) dX2_free_43 rfl ?_
      refine g_sub Γ [1, 2, 3, 0] rfl ?_
      exact kI1 (x1_7, x2_8, x3_5 + 1) (Option.some.inj hf).symm
    refine g_if_ne Γ (pc := 20) (tgt := 40) dX2_free_20 rfl hf (fun hf => ?_) (fun hf => ?_)
    · refine g_sub Γ [0, 1, 2, 3] rfl ?_
      exact J_40 x1_3 x2_4 hf
    · refine g_iload_n Γ (pc := 23) 1 dX2_free_23 rfl rfl ?_
      refine g_iload_n Γ (pc := 24) 3 dX2_free_24 rfl rfl ?_
      refine g_ior Γ (pc := 25) dX2_free_25 ?_
      refine g_istore_n Γ (pc := 26) (lv' := [(1, .int (x1_3 ||| x3_5)), (0, .ref (sq Y 36)), (2, .int x2_4), (3, .int x3_5)]) dX2_free_26 rfl (by decide) rfl ?_
      refine g_iload_n Γ (pc := 27) 2 dX2_free_27 rfl rfl ?_
      refine g_aload_n Γ (pc := 28) 1 dX2_free_28 rfl rfl ?_
      refine g_get Γ (pc := 29) (v := .int (μ 36 1)) dX2_free_29 (C_order hC) fr_X2_15 rfl ?_
      refine g_iconst Γ (pc := 32) (v := 1) dX2_free_32 rfl ?_
      refine g_isub Γ (pc := 33) dX2_free_33 ?_
      refine g_iload_n Γ (pc := 34) 3 dX2_free_34 rfl rfl ?_
      refine g_iconst Γ (pc := 35) (v := (-1)) dX2_free_35 rfl ?_
      refine g_ixor Γ (pc := 36) dX2_free_36 ?_
      refine g_iand Γ (pc := 37) dX2_free_37 ?_
      refine g_ior Γ (pc := 38) dX2_free_38 ?_
      refine g_nmi hf (fun e9 hf => ?_)
      refine g_istore_n Γ (pc := 39) (lv' := [(2, .int e9), (1, .int (x1_3 ||| x3_5)), (0, .ref (sq Y 36)), (3, .int x3_5)]) dX2_free_39 rfl (by decide) rfl ?_
      refine g_sub Γ [2, 1, 0, 3] rfl ?_
      exact J_40 (x1_3 ||| x3_5) e9 hf
def f_X2_nearest_K5_56 (y2_1 : Int32) : Option (Int32) :=
  some y2_1
def f_X2_nearest_J50 (x3_3 : Int32) (x2_6 : Int32) : Option ((Int32 × Int32) ⊕ Int32) :=
  some (.inl (x2_6, x3_3 + 1))
def f_X2_nearest_J47 (x3_3 : Int32) (v4 : Int32) : Option ((Int32 × Int32) ⊕ Int32) :=
  f_X2_nearest_J50 x3_3 v4
def f_X2_nearest_L5 (a0 : Int32) (μ : Mem) (x2_2 : Int32) (x3_3 : Int32) : Option ((Int32 × Int32) ⊕ Int32) :=
  if (μ 36 1) ≤ x3_3 then
    some (.inr x2_2)
  else
    bn1 (f_J6_bitCount_0f7a4 (x3_3 ^^^ a0)) fun v4 =>
    bn1 (ldM (μ 37) 1024 x3_3) fun v5 =>
    if v5 = 0 then
      if v4 ≤ 0 then
        f_X2_nearest_J50 x3_3 x2_2
      else
        if x2_2 = (-1000000005) then
          f_X2_nearest_J47 x3_3 v4
        else
          if x2_2 ≤ v4 then
            f_X2_nearest_J50 x3_3 x2_2
          else
            f_X2_nearest_J47 x3_3 v4
    else
      f_X2_nearest_J50 x3_3 x2_2
def f_X2_nearest (a0 : Int32) (μ : Mem) : Option (Int32) :=
  bn1 (lpF (fun v => f_X2_nearest_L5 a0 μ v.1 v.2) 4000 ((-1000000005), 0)) (fun x => f_X2_nearest_K5_56 x)
set_option maxRecDepth 100000 in
set_option maxHeartbeats 4000000 in
theorem c_X2_nearest {Y : SYS} (hC : IsC Y) {a0 : Int32} {μ : Mem} {x : Int32} (hf : f_X2_nearest a0 μ = some x) : KC Y yX2_nearest cX2_nearest 5 (some .int) 1 [.ref (sq Y 36), .int a0] μ (some (.int x)) μ := by
  refine KC.I RX2 [(0, .ref (sq Y 36)), (1, .int a0)] (by decide) rfl (Nat.le_of_ble_eq_true rfl) rfl (fun G Γ ret => ?_)
  unfold f_X2_nearest at hf
  refine g_ldc Γ (pc := 0) dX2_nearest_0 kK_X2_40 ?_
  refine g_istore_n Γ (pc := 2) (lv' := [(2, .int (-1000000005)), (0, .ref (sq Y 36)), (1, .int a0)]) dX2_nearest_2 rfl (by decide) rfl ?_
  refine g_iconst Γ (pc := 3) (v := 0) dX2_nearest_3 rfl ?_
  refine g_istore_n Γ (pc := 4) (lv' := [(3, .int 0), (2, .int (-1000000005)), (0, .ref (sq Y 36)), (1, .int a0)]) dX2_nearest_4 rfl (by decide) rfl ?_
  have K_5_56 : ∀ (y2_1 : Int32), f_X2_nearest_K5_56 y2_1 = some x → G 56 [(2, .int y2_1)] [] μ := by
    intro y2_1 hf
    unfold f_X2_nearest_K5_56 at hf
    refine g_iload_n Γ (pc := 56) 0 dX2_nearest_56 rfl rfl ?_
    exact rIr ret dX2_nearest_57 hf
  refine g_sub Γ [2, 3, 1, 0] rfl ?_
  refine lpF_s (P := fun (v : Int32 × Int32) => G 5 [(0, .ref (sq Y 36)), (1, .int a0), (2, .int v.1), (3, .int v.2)] [] μ) hf (fun v z1 hf kI1 kX1 => ?_)
  obtain ⟨x2_2, x3_3⟩ := v
  replace hf : f_X2_nearest_L5 a0 μ x2_2 x3_3 = some z1 := hf
  show G 5 [(0, .ref (sq Y 36)), (1, .int a0), (2, .int x2_2), (3, .int x3_3)] [] μ
  unfold f_X2_nearest_L5 at hf
  refine g_iload_n Γ (pc := 5) 3 dX2_nearest_5 rfl rfl ?_
  refine g_aload_n Γ (pc := 6) 0 dX2_nearest_6 rfl rfl ?_
  refine g_get Γ (pc := 7) (v := .int (μ 36 1)) dX2_nearest_7 (C_order hC) fr_X2_15 rfl ?_
  refine g_icmp_ge Γ (pc := 10) (tgt := 56) dX2_nearest_10 rfl hf (fun hf => ?_) (fun hf => ?_)
  · refine g_sub Γ [2] rfl ?_
    exact K_5_56 x2_2 (kX1 x2_2 (Option.some.inj hf).symm)
  · refine g_iload_n Γ (pc := 13) 3 dX2_nearest_13 rfl rfl ?_
    refine g_iload_n Γ (pc := 14) 1 dX2_nearest_14 rfl rfl ?_
    refine g_ixor Γ (pc := 15) dX2_nearest_15 ?_
    obtain ⟨v4, h1, hf⟩ := bn1_i hf
    refine g_callSI Γ (pc := 16) (as := [.int (x3_3 ^^^ a0)]) (st := []) dX2_nearest_16 (c_J6_bitCount_0f7a4 h1) mi_J6_bitCount_0f7a4 ms_J6_bitCount_0f7a4 kM_X2_45 rfl ⟨Nat.le_of_ble_eq_true rfl, Nat.le_of_ble_eq_true rfl⟩ rfl (Nat.le_of_ble_eq_true rfl) ?_
    refine g_istore Γ (pc := 19) (lv' := [(4, .int v4), (0, .ref (sq Y 36)), (1, .int a0), (2, .int x2_2), (3, .int x3_3)]) dX2_nearest_19 (by decide) rfl ?_
    refine g_aload_n Γ (pc := 21) 1 dX2_nearest_21 rfl rfl ?_
    refine g_get Γ (pc := 22) (v := .ref (sq Y 37)) dX2_nearest_22 (C_order hC) fr_X2_9 rfl ?_
    refine g_iload_n Γ (pc := 25) 4 dX2_nearest_25 rfl rfl ?_
    refine g_iald Γ (pc := 26) dX2_nearest_26 (C_37 hC) hf (fun v5 hf => ?_)
    have J_50 : ∀ (x2_6 : Int32), f_X2_nearest_J50 x3_3 x2_6 = some z1 → G 50 [(0, .ref (sq Y 36)), (1, .int a0), (2, .int x2_6), (3, .int x3_3)] [] μ := by
      intro x2_6 hf
      unfold f_X2_nearest_J50 at hf
      refine g_iinc Γ (pc := 50) (v := x3_3 + 1) (lv' := [(3, .int (x3_3 + 1)), (0, .ref (sq Y 36)), (1, .int a0), (2, .int x2_6)]) 3 dX2_nearest_50 rfl rfl (by decide) rfl ?_
      refine g_goto Γ (pc := 53) (tgt := 5) dX2_nearest_53 rfl ?_
      refine g_sub Γ [1, 2, 3, 0] rfl ?_
      exact kI1 (x2_6, x3_3 + 1) (Option.some.inj hf).symm
    refine g_if_ne Γ (pc := 27) (tgt := 50) dX2_nearest_27 rfl hf (fun hf => ?_) (fun hf => ?_)
    · refine g_sub Γ [1, 2, 3, 4] rfl ?_
      exact J_50 x2_2 hf
    · refine g_iload Γ (pc := 30) 0 dX2_nearest_30 rfl ?_
      refine g_if_le Γ (pc := 32) (tgt := 50) dX2_nearest_32 rfl hf (fun hf => ?_) (fun hf => ?_)
      · refine g_sub Γ [1, 2, 3, 4] rfl ?_
        exact J_50 x2_2 hf
      · refine g_iload_n Γ (pc := 35) 3 dX2_nearest_35 rfl rfl ?_
        refine g_ldc Γ (pc := 36) dX2_nearest_36 kK_X2_40 ?_
        have J_47 : f_X2_nearest_J47 x3_3 v4 = some z1 → G 47 [(0, .ref (sq Y 36)), (1, .int a0), (3, .int x3_3), (4, .int v4)] [] μ := by
          intro hf
          unfold f_X2_nearest_J47 at hf
          refine g_iload Γ (pc := 47) 3 dX2_nearest_47 rfl ?_
          refine g_istore_n Γ (pc := 49) (lv' := [(2, .int v4), (0, .ref (sq Y 36)), (1, .int a0), (3, .int x3_3), (4, .int v4)]) dX2_nearest_49 rfl (by decide) rfl ?_
          refine g_sub Γ [1, 2, 0, 3] rfl ?_
          exact J_50 v4 hf
        refine g_icmp_eq Γ (pc := 38) (tgt := 47) dX2_nearest_38 rfl hf (fun hf => ?_) (fun hf => ?_)
        · refine g_sub Γ [1, 2, 4, 0] rfl ?_
          exact J_47 hf
        · refine g_iload Γ (pc := 41) 0 dX2_nearest_41 rfl ?_
          refine g_iload_n Γ (pc := 43) 3 dX2_nearest_43 rfl rfl ?_
          refine g_icmp_ge Γ (pc := 44) (tgt := 50) dX2_nearest_44 rfl hf (fun hf => ?_) (fun hf => ?_)
          · refine g_sub Γ [1, 2, 3, 4] rfl ?_
            exact J_50 x2_2 hf
          · refine g_sub Γ [1, 2, 4, 0] rfl ?_
            exact J_47 hf
def f_X2_howManyTurned_K41_111 (y7_6 : Int32) : Option (Int32) :=
  some y7_6
def f_X2_howManyTurned_J105 (x8_8 : Int32) (x7_10 : Int32) : Option ((Int32 × Int32) ⊕ Int32) :=
  some (.inl (x7_10, x8_8 + 1))
def f_X2_howManyTurned_L41 (b0 : Nat) (μ : Mem) (e1 : Int32) (e3 : Int32) (e5 : Int32) (x7_7 : Int32) (x8_8 : Int32) : Option ((Int32 × Int32) ⊕ Int32) :=
  if (μ 36 1) ≤ x8_8 then
    some (.inr x7_7)
  else
    bn1 (ldM (μ 37) 1024 x8_8) fun v9 =>
    if v9 = (-1) then
      f_X2_howManyTurned_J105 x8_8 x7_7
    else
      bn1 (ldM (μ 37) 1024 x8_8) fun v11 =>
      if (v11 &&& e1) = 0 then
        bn1 (f_X6_offAmong e3 x8_8) fun v12 =>
        if (μ b0 7) < v12 then
          f_X2_howManyTurned_J105 x8_8 x7_7
        else
          bn1 (f_X6_offAmong e5 x8_8) fun v13 =>
          if (μ b0 7) < v13 then
            f_X2_howManyTurned_J105 x8_8 x7_7
          else
            f_X2_howManyTurned_J105 x8_8 (x7_7 + 1)
      else
        f_X2_howManyTurned_J105 x8_8 x7_7
def f_X2_howManyTurned (b0 : Nat) (a1 : Int32) (a2 : Int32) (μ : Mem) : Option (Int32) :=
  nm ((((1 : Int32) <<< (a1 &&& 31)) ||| ((1 : Int32) <<< (a2 &&& 31))) ^^^ (-1)) fun e1 =>
  bn1 (ldM (μ (b0 + 4)) 10 a1) fun v2 =>
  nm (v2 ^^^ ((1 : Int32) <<< (a2 &&& 31))) fun e3 =>
  bn1 (ldM (μ (b0 + 4)) 10 a2) fun v4 =>
  nm (v4 ^^^ ((1 : Int32) <<< (a1 &&& 31))) fun e5 =>
  bn1 (lpF (fun v => f_X2_howManyTurned_L41 b0 μ e1 e3 e5 v.1 v.2) 4000 (0, 0)) (fun x => f_X2_howManyTurned_K41_111 x)
set_option maxRecDepth 100000 in
set_option maxHeartbeats 4000000 in
theorem c_X2_howManyTurned {Y : SYS} (hC : IsC Y) {b0 : Nat} {a1 : Int32} {a2 : Int32} {μ : Mem} {x : Int32} (hb0 : TownAt b0) (hf : f_X2_howManyTurned b0 a1 a2 μ = some x) : KC Y yX2_howManyTurned cX2_howManyTurned 9 (some .int) 2 [.ref (sq Y 36), .ref (sq Y b0), .int a1, .int a2] μ (some (.int x)) μ := by
  refine KC.I RX2 [(0, .ref (sq Y 36)), (1, .ref (sq Y b0)), (2, .int a1), (3, .int a2)] (by decide) rfl (Nat.le_of_ble_eq_true rfl) rfl (fun G Γ ret => ?_)
  unfold f_X2_howManyTurned at hf
  refine g_iconst Γ (pc := 0) (v := 1) dX2_howManyTurned_0 rfl ?_
  refine g_iload_n Γ (pc := 1) 2 dX2_howManyTurned_1 rfl rfl ?_
  refine g_ishl Γ (pc := 2) dX2_howManyTurned_2 ?_
  refine g_iconst Γ (pc := 3) (v := 1) dX2_howManyTurned_3 rfl ?_
  refine g_iload_n Γ (pc := 4) 3 dX2_howManyTurned_4 rfl rfl ?_
  refine g_ishl Γ (pc := 5) dX2_howManyTurned_5 ?_
  refine g_ior Γ (pc := 6) dX2_howManyTurned_6 ?_
  refine g_iconst Γ (pc := 7) (v := (-1)) dX2_howManyTurned_7 rfl ?_
  refine g_ixor Γ (pc := 8) dX2_howManyTurned_8 ?_
  refine g_nmi hf (fun e1 hf => ?_)
  refine g_istore Γ (pc := 9) (lv' := [(4, .int e1), (0, .ref (sq Y 36)), (1, .ref (sq Y b0)), (2, .int a1), (3, .int a2)]) dX2_howManyTurned_9 (by decide) rfl ?_
  refine g_aload_n Γ (pc := 11) 2 dX2_howManyTurned_11 rfl rfl ?_
  refine g_get Γ (pc := 12) (v := .ref (sq Y (b0 + 4))) dX2_howManyTurned_12 (C_town hC hb0) fr_X2_57 rfl ?_
  refine g_iload_n Γ (pc := 15) 3 dX2_howManyTurned_15 rfl rfl ?_
  refine g_iald Γ (pc := 16) dX2_howManyTurned_16 (C_town4 hC hb0) hf (fun v2 hf => ?_)
  refine g_iconst Γ (pc := 17) (v := 1) dX2_howManyTurned_17 rfl ?_
  refine g_iload_n Γ (pc := 18) 4 dX2_howManyTurned_18 rfl rfl ?_
  refine g_ishl Γ (pc := 19) dX2_howManyTurned_19 ?_
  refine g_ixor Γ (pc := 20) dX2_howManyTurned_20 ?_
  refine g_nmi hf (fun e3 hf => ?_)
  refine g_istore Γ (pc := 21) (lv' := [(5, .int e3), (4, .int e1), (0, .ref (sq Y 36)), (1, .ref (sq Y b0)), (2, .int a1), (3, .int a2)]) dX2_howManyTurned_21 (by decide) rfl ?_
  refine g_aload_n Γ (pc := 23) 3 dX2_howManyTurned_23 rfl rfl ?_
  refine g_get Γ (pc := 24) (v := .ref (sq Y (b0 + 4))) dX2_howManyTurned_24 (C_town hC hb0) fr_X2_57 rfl ?_
  refine g_iload_n Γ (pc := 27) 5 dX2_howManyTurned_27 rfl rfl ?_
  refine g_iald Γ (pc := 28) dX2_howManyTurned_28 (C_town4 hC hb0) hf (fun v4 hf => ?_)
  refine g_iconst Γ (pc := 29) (v := 1) dX2_howManyTurned_29 rfl ?_
  refine g_iload_n Γ (pc := 30) 4 dX2_howManyTurned_30 rfl rfl ?_
  refine g_ishl Γ (pc := 31) dX2_howManyTurned_31 ?_
  refine g_ixor Γ (pc := 32) dX2_howManyTurned_32 ?_
  refine g_nmi hf (fun e5 hf => ?_)
  refine g_istore Γ (pc := 33) (lv' := [(6, .int e5), (5, .int e3), (4, .int e1), (0, .ref (sq Y 36)), (1, .ref (sq Y b0)), (2, .int a1), (3, .int a2)]) dX2_howManyTurned_33 (by decide) rfl ?_
  refine g_iconst Γ (pc := 35) (v := 0) dX2_howManyTurned_35 rfl ?_
  refine g_istore Γ (pc := 36) (lv' := [(7, .int 0), (6, .int e5), (5, .int e3), (4, .int e1), (0, .ref (sq Y 36)), (1, .ref (sq Y b0)), (2, .int a1), (3, .int a2)]) dX2_howManyTurned_36 (by decide) rfl ?_
  refine g_iconst Γ (pc := 38) (v := 0) dX2_howManyTurned_38 rfl ?_
  refine g_istore Γ (pc := 39) (lv' := [(8, .int 0), (7, .int 0), (6, .int e5), (5, .int e3), (4, .int e1), (0, .ref (sq Y 36)), (1, .ref (sq Y b0)), (2, .int a1), (3, .int a2)]) dX2_howManyTurned_39 (by decide) rfl ?_
  have K_41_111 : ∀ (y7_6 : Int32), f_X2_howManyTurned_K41_111 y7_6 = some x → G 111 [(7, .int y7_6)] [] μ := by
    intro y7_6 hf
    unfold f_X2_howManyTurned_K41_111 at hf
    refine g_iload Γ (pc := 111) 0 dX2_howManyTurned_111 rfl ?_
    exact rIr ret dX2_howManyTurned_113 hf
  refine g_sub Γ [5, 6, 4, 3, 2, 1, 0] rfl ?_
  refine lpF_s (P := fun (v : Int32 × Int32) => G 41 [(0, .ref (sq Y 36)), (1, .ref (sq Y b0)), (4, .int e1), (5, .int e3), (6, .int e5), (7, .int v.1), (8, .int v.2)] [] μ) hf (fun v z1 hf kI1 kX1 => ?_)
  obtain ⟨x7_7, x8_8⟩ := v
  replace hf : f_X2_howManyTurned_L41 b0 μ e1 e3 e5 x7_7 x8_8 = some z1 := hf
  show G 41 [(0, .ref (sq Y 36)), (1, .ref (sq Y b0)), (4, .int e1), (5, .int e3), (6, .int e5), (7, .int x7_7), (8, .int x8_8)] [] μ
  unfold f_X2_howManyTurned_L41 at hf
  refine g_iload Γ (pc := 41) 6 dX2_howManyTurned_41 rfl ?_
  refine g_aload_n Γ (pc := 43) 0 dX2_howManyTurned_43 rfl rfl ?_
  refine g_get Γ (pc := 44) (v := .int (μ 36 1)) dX2_howManyTurned_44 (C_order hC) fr_X2_15 rfl ?_
  refine g_icmp_ge Γ (pc := 47) (tgt := 111) dX2_howManyTurned_47 rfl hf (fun hf => ?_) (fun hf => ?_)
  · refine g_sub Γ [5] rfl ?_
    exact K_41_111 x7_7 (kX1 x7_7 (Option.some.inj hf).symm)
  · refine g_aload_n Γ (pc := 50) 0 dX2_howManyTurned_50 rfl rfl ?_
    refine g_get Γ (pc := 51) (v := .ref (sq Y 37)) dX2_howManyTurned_51 (C_order hC) fr_X2_9 rfl ?_
    refine g_iload Γ (pc := 54) 6 dX2_howManyTurned_54 rfl ?_
    refine g_iald Γ (pc := 56) dX2_howManyTurned_56 (C_37 hC) hf (fun v9 hf => ?_)
    refine g_iconst Γ (pc := 57) (v := (-1)) dX2_howManyTurned_57 rfl ?_
    have J_105 : ∀ (x7_10 : Int32), f_X2_howManyTurned_J105 x8_8 x7_10 = some z1 → G 105 [(0, .ref (sq Y 36)), (1, .ref (sq Y b0)), (4, .int e1), (5, .int e3), (6, .int e5), (7, .int x7_10), (8, .int x8_8)] [] μ := by
      intro x7_10 hf
      unfold f_X2_howManyTurned_J105 at hf
      refine g_iinc Γ (pc := 105) (v := x8_8 + 1) (lv' := [(8, .int (x8_8 + 1)), (0, .ref (sq Y 36)), (1, .ref (sq Y b0)), (4, .int e1), (5, .int e3), (6, .int e5), (7, .int x7_10)]) 6 dX2_howManyTurned_105 rfl rfl (by decide) rfl ?_
      refine g_goto Γ (pc := 108) (tgt := 41) dX2_howManyTurned_108 rfl ?_
      refine g_sub Γ [1, 2, 3, 4, 5, 6, 0] rfl ?_
      exact kI1 (x7_10, x8_8 + 1) (Option.some.inj hf).symm
    refine g_icmp_eq Γ (pc := 58) (tgt := 105) dX2_howManyTurned_58 rfl hf (fun hf => ?_) (fun hf => ?_)
    · refine g_sub Γ [0, 1, 2, 3, 4, 5, 6] rfl ?_
      exact J_105 x7_7 hf
    · refine g_aload_n Γ (pc := 61) 0 dX2_howManyTurned_61 rfl rfl ?_
      refine g_get Γ (pc := 62) (v := .ref (sq Y 37)) dX2_howManyTurned_62 (C_order hC) fr_X2_9 rfl ?_
      refine g_iload Γ (pc := 65) 6 dX2_howManyTurned_65 rfl ?_
      refine g_iald Γ (pc := 67) dX2_howManyTurned_67 (C_37 hC) hf (fun v11 hf => ?_)
      refine g_iload Γ (pc := 68) 2 dX2_howManyTurned_68 rfl ?_
      refine g_iand Γ (pc := 70) dX2_howManyTurned_70 ?_
      refine g_if_ne Γ (pc := 71) (tgt := 105) dX2_howManyTurned_71 rfl hf (fun hf => ?_) (fun hf => ?_)
      · refine g_sub Γ [0, 1, 2, 3, 4, 5, 6] rfl ?_
        exact J_105 x7_7 hf
      · refine g_iload Γ (pc := 74) 3 dX2_howManyTurned_74 rfl ?_
        refine g_iload Γ (pc := 76) 6 dX2_howManyTurned_76 rfl ?_
        obtain ⟨v12, h1, hf⟩ := bn1_i hf
        refine g_callSI Γ (pc := 78) (as := [.int e3, .int x8_8]) (st := []) dX2_howManyTurned_78 (c_X6_offAmong h1) mi_X6_offAmong ms_X6_offAmong kM_X2_60 rfl ⟨Nat.le_of_ble_eq_true rfl, Nat.le_of_ble_eq_true rfl⟩ rfl (Nat.le_of_ble_eq_true rfl) ?_
        refine g_aload_n Γ (pc := 81) 1 dX2_howManyTurned_81 rfl rfl ?_
        refine g_get Γ (pc := 82) (v := .int (μ b0 7)) dX2_howManyTurned_82 (C_town hC hb0) fr_X2_63 rfl ?_
        refine g_icmp_gt Γ (pc := 85) (tgt := 105) dX2_howManyTurned_85 rfl hf (fun hf => ?_) (fun hf => ?_)
        · refine g_sub Γ [0, 1, 2, 3, 4, 5, 6] rfl ?_
          exact J_105 x7_7 hf
        · refine g_iload Γ (pc := 88) 4 dX2_howManyTurned_88 rfl ?_
          refine g_iload Γ (pc := 90) 6 dX2_howManyTurned_90 rfl ?_
          obtain ⟨v13, h1, hf⟩ := bn1_i hf
          refine g_callSI Γ (pc := 92) (as := [.int e5, .int x8_8]) (st := []) dX2_howManyTurned_92 (c_X6_offAmong h1) mi_X6_offAmong ms_X6_offAmong kM_X2_60 rfl ⟨Nat.le_of_ble_eq_true rfl, Nat.le_of_ble_eq_true rfl⟩ rfl (Nat.le_of_ble_eq_true rfl) ?_
          refine g_aload_n Γ (pc := 95) 1 dX2_howManyTurned_95 rfl rfl ?_
          refine g_get Γ (pc := 96) (v := .int (μ b0 7)) dX2_howManyTurned_96 (C_town hC hb0) fr_X2_63 rfl ?_
          refine g_icmp_gt Γ (pc := 99) (tgt := 105) dX2_howManyTurned_99 rfl hf (fun hf => ?_) (fun hf => ?_)
          · refine g_sub Γ [0, 1, 2, 3, 4, 5, 6] rfl ?_
            exact J_105 x7_7 hf
          · refine g_iinc Γ (pc := 102) (v := x7_7 + 1) (lv' := [(7, .int (x7_7 + 1)), (0, .ref (sq Y 36)), (1, .ref (sq Y b0)), (4, .int e1), (5, .int e3), (6, .int e5), (8, .int x8_8)]) 5 dX2_howManyTurned_102 rfl rfl (by decide) rfl ?_
            refine g_sub Γ [1, 2, 3, 4, 5, 0, 6] rfl ?_
            exact J_105 (x7_7 + 1) hf
def f_X6_pay (b : Nat) (a0 : Int32) (a1 : Int32) (μ : Mem) : Option (Mem) :=
  bn1 (ldM (μ (b + 3)) 10 a0) fun v1 =>
  nm (if (-9999) < (v1 - a1) then (v1 - a1) else (-9999)) fun e2 =>
  bn1 (stM μ (b + 3) 10 a0 e2) fun m3 =>
  nm (mset m3 b 10 ((m3 b 10) + a1)) fun m4 =>
  some m4
set_option maxRecDepth 100000 in
set_option maxHeartbeats 4000000 in
theorem c_X6_pay {Y : SYS} (hC : IsC Y) {b : Nat} {a0 : Int32} {a1 : Int32} {μ : Mem} {m : Mem} (hb : TownAt b) (hf : f_X6_pay b a0 a1 μ = some m) : KC Y yX6_pay cX6_pay 3 none 1 [.ref (sq Y b), .int a0, .int a1] μ none m := by
  refine KC.V RX6 [(0, .ref (sq Y b)), (1, .int a0), (2, .int a1)] (by decide) rfl (Nat.le_of_ble_eq_true rfl) rfl (fun G Γ ret => ?_)
  unfold f_X6_pay at hf
  refine g_aload_n Γ (pc := 0) 0 dX6_pay_0 rfl rfl ?_
  refine g_get Γ (pc := 1) (v := .ref (sq Y (b + 3))) dX6_pay_1 (C_town hC hb) fr_X6_18 rfl ?_
  refine g_iload_n Γ (pc := 4) 1 dX6_pay_4 rfl rfl ?_
  refine g_sipush Γ (pc := 5) (v := (-9999)) dX6_pay_5 rfl ?_
  refine g_aload_n Γ (pc := 8) 0 dX6_pay_8 rfl rfl ?_
  refine g_get Γ (pc := 9) (v := .ref (sq Y (b + 3))) dX6_pay_9 (C_town hC hb) fr_X6_18 rfl ?_
  refine g_iload_n Γ (pc := 12) 1 dX6_pay_12 rfl rfl ?_
  refine g_iald Γ (pc := 13) dX6_pay_13 (C_town3 hC hb) hf (fun v1 hf => ?_)
  refine g_iload_n Γ (pc := 14) 2 dX6_pay_14 rfl rfl ?_
  refine g_isub Γ (pc := 15) dX6_pay_15 ?_
  refine g_max Γ (pc := 16) dX6_pay_16 kM_X6_101 kS_Math_max kI_J9 kC_Math_max (Nat.le_of_ble_eq_true rfl) (Nat.le_of_ble_eq_true rfl) ?_
  refine g_nmi hf (fun e2 hf => ?_)
  refine g_iast Γ (pc := 19) dX6_pay_19 (C_town3 hC hb) hf (fun m3 hf => ?_)
  refine g_aload_n Γ (pc := 20) 0 dX6_pay_20 rfl rfl ?_
  refine g_dup Γ (pc := 21) dX6_pay_21 rfl ?_
  refine g_get Γ (pc := 22) (v := .int (m3 b 10)) dX6_pay_22 (C_town hC hb) fr_X6_40 rfl ?_
  refine g_iload_n Γ (pc := 25) 2 dX6_pay_25 rfl rfl ?_
  refine g_iadd Γ (pc := 26) dX6_pay_26 ?_
  refine g_put Γ (pc := 27) dX6_pay_27 (C_town hC hb) fw_X6_40 (Nat.le_of_ble_eq_true rfl) rfl ?_
  refine g_nmm hf (fun m4 hf => ?_)
  exact rV ret dX6_pay_30 hf
def f_X6_payDues_K2_38 (m1 : Mem) : Option (Mem) :=
  some m1
def f_X6_payDues_J32 (x1_2 : Int32) (m5 : Mem) : Option ((Int32 × Mem) ⊕ Mem) :=
  some (.inl (x1_2 + 1, m5))
def f_X6_payDues_L2 (b : Nat) (x1_2 : Int32) (m3 : Mem) : Option ((Int32 × Mem) ⊕ Mem) :=
  if (m3 b 5) ≤ x1_2 then
    some (.inr m3)
  else
    bn1 (f_X6_offOf b x1_2 m3) fun v4 =>
    if v4 ≤ (m3 b 7) then
      f_X6_payDues_J32 x1_2 m3
    else
      bn2 (f_X6_owes b x1_2 m3) fun v6 m7 =>
      bn1 (f_X6_pay b x1_2 v6 m7) fun m8 =>
      f_X6_payDues_J32 x1_2 m8
def f_X6_payDues (b : Nat) (μ : Mem) : Option (Mem) :=
  bn1 (lpF (fun v => f_X6_payDues_L2 b v.1 v.2) 4000 (0, μ)) (fun x => f_X6_payDues_K2_38 x)
set_option maxRecDepth 100000 in
set_option maxHeartbeats 4000000 in
theorem c_X6_payDues {Y : SYS} (hC : IsC Y) {b : Nat} {μ : Mem} {m : Mem} (hb : TownAt b) (hf : f_X6_payDues b μ = some m) : KC Y yX6_payDues cX6_payDues 2 none 5 [.ref (sq Y b)] μ none m := by
  refine KC.V RX6 [(0, .ref (sq Y b))] (by decide) rfl (Nat.le_of_ble_eq_true rfl) rfl (fun G Γ ret => ?_)
  unfold f_X6_payDues at hf
  refine g_iconst Γ (pc := 0) (v := 0) dX6_payDues_0 rfl ?_
  refine g_istore_n Γ (pc := 1) (lv' := [(1, .int 0), (0, .ref (sq Y b))]) dX6_payDues_1 rfl (by decide) rfl ?_
  have K_2_38 : ∀ (m1 : Mem), f_X6_payDues_K2_38 m1 = some m → G 38 [] [] m1 := by
    intro m1 hf
    unfold f_X6_payDues_K2_38 at hf
    exact rV ret dX6_payDues_38 hf
  refine g_sub Γ [1, 0] rfl ?_
  refine lpF_s (P := fun (v : Int32 × Mem) => G 2 [(0, .ref (sq Y b)), (1, .int v.1)] [] v.2) hf (fun v z1 hf kI1 kX1 => ?_)
  obtain ⟨x1_2, m3⟩ := v
  replace hf : f_X6_payDues_L2 b x1_2 m3 = some z1 := hf
  show G 2 [(0, .ref (sq Y b)), (1, .int x1_2)] [] m3
  unfold f_X6_payDues_L2 at hf
  refine g_iload_n Γ (pc := 2) 1 dX6_payDues_2 rfl rfl ?_
  refine g_aload_n Γ (pc := 3) 0 dX6_payDues_3 rfl rfl ?_
  refine g_get Γ (pc := 4) (v := .int (m3 b 5)) dX6_payDues_4 (C_town hC hb) fr_X6_24 rfl ?_
  refine g_icmp_ge Γ (pc := 7) (tgt := 38) dX6_payDues_7 rfl hf (fun hf => ?_) (fun hf => ?_)
  · refine g_sub Γ [] rfl ?_
    exact K_2_38 m3 (kX1 m3 (Option.some.inj hf).symm)
  · refine g_aload_n Γ (pc := 10) 0 dX6_payDues_10 rfl rfl ?_
    refine g_iload_n Γ (pc := 11) 1 dX6_payDues_11 rfl rfl ?_
    obtain ⟨v4, h1, hf⟩ := bn1_i hf
    refine g_callVI Γ (pc := 12) (as := [.int x1_2]) (st := []) dX6_payDues_12 (c_X6_offOf hC hb h1) (C_town hC hb) rfl mi_X6_offOf mv_X6_offOf kM_X6_83 rfl ⟨Nat.le_of_ble_eq_true rfl, Nat.le_of_ble_eq_true rfl⟩ rfl (Nat.le_of_ble_eq_true rfl) ?_
    refine g_aload_n Γ (pc := 15) 0 dX6_payDues_15 rfl rfl ?_
    refine g_get Γ (pc := 16) (v := .int (m3 b 7)) dX6_payDues_16 (C_town hC hb) fr_X6_31 rfl ?_
    have J_32 : ∀ (m5 : Mem), f_X6_payDues_J32 x1_2 m5 = some z1 → G 32 [(0, .ref (sq Y b)), (1, .int x1_2)] [] m5 := by
      intro m5 hf
      unfold f_X6_payDues_J32 at hf
      refine g_iinc Γ (pc := 32) (v := x1_2 + 1) (lv' := [(1, .int (x1_2 + 1)), (0, .ref (sq Y b))]) 1 dX6_payDues_32 rfl rfl (by decide) rfl ?_
      refine g_goto Γ (pc := 35) (tgt := 2) dX6_payDues_35 rfl ?_
      refine g_sub Γ [1, 0] rfl ?_
      exact kI1 (x1_2 + 1, m5) (Option.some.inj hf).symm
    refine g_icmp_le Γ (pc := 19) (tgt := 32) dX6_payDues_19 rfl hf (fun hf => ?_) (fun hf => ?_)
    · refine g_sub Γ [0, 1] rfl ?_
      exact J_32 m3 hf
    · refine g_aload_n Γ (pc := 22) 0 dX6_payDues_22 rfl rfl ?_
      refine g_iload_n Γ (pc := 23) 1 dX6_payDues_23 rfl rfl ?_
      refine g_aload_n Γ (pc := 24) 0 dX6_payDues_24 rfl rfl ?_
      refine g_iload_n Γ (pc := 25) 1 dX6_payDues_25 rfl rfl ?_
      obtain ⟨v6, m7, h1, hf⟩ := bn2_i hf
      refine g_callVI Γ (pc := 26) (as := [.int x1_2]) (st := [.int x1_2, .ref (sq Y b)]) dX6_payDues_26 (c_X6_owes hC hb h1) (C_town hC hb) rfl mi_X6_owes mv_X6_owes kM_X6_127 rfl ⟨Nat.le_of_ble_eq_true rfl, Nat.le_of_ble_eq_true rfl⟩ rfl (Nat.le_of_ble_eq_true rfl) ?_
      obtain ⟨m8, h1, hf⟩ := bn1_i hf
      refine g_callVV Γ (pc := 29) (as := [.int x1_2, .int v6]) (st := []) dX6_payDues_29 (c_X6_pay hC hb h1) (C_town hC hb) rfl mi_X6_pay mv_X6_pay kM_X6_129 rfl ⟨Nat.le_of_ble_eq_true rfl, Nat.le_of_ble_eq_true rfl⟩ rfl (Nat.le_of_ble_eq_true rfl) ?_
      refine g_sub Γ [0, 1] rfl ?_
      exact J_32 m8 hf
def f_X6_worst_K6_37 (y1_1 : Int32) : Option (Int32) :=
  some y1_1
def f_X6_worst_J31 (x3_4 : Int32) (x1_6 : Int32) (x2_7 : Int32) : Option ((Int32 × Int32 × Int32) ⊕ Int32) :=
  some (.inl (x1_6, x2_7, x3_4 + 1))
def f_X6_worst_L6 (b : Nat) (μ : Mem) (x1_2 : Int32) (x2_3 : Int32) (x3_4 : Int32) : Option ((Int32 × Int32 × Int32) ⊕ Int32) :=
  if (μ b 5) ≤ x3_4 then
    some (.inr x1_2)
  else
    bn1 (f_X6_offOf b x3_4 μ) fun v5 =>
    if v5 ≤ x2_3 then
      f_X6_worst_J31 x3_4 x1_2 x2_3
    else
      bn1 (f_X6_offOf b x3_4 μ) fun v8 =>
      f_X6_worst_J31 x3_4 x3_4 v8
def f_X6_worst (b : Nat) (μ : Mem) : Option (Int32) :=
  bn1 (lpF (fun v => f_X6_worst_L6 b μ v.1 v.2.1 v.2.2) 4000 ((-1), 0, 0)) (fun x => f_X6_worst_K6_37 x)
set_option maxRecDepth 100000 in
set_option maxHeartbeats 4000000 in
theorem c_X6_worst {Y : SYS} (hC : IsC Y) {b : Nat} {μ : Mem} {x : Int32} (hb : TownAt b) (hf : f_X6_worst b μ = some x) : KC Y yX6_worst cX6_worst 4 (some .int) 4 [.ref (sq Y b)] μ (some (.int x)) μ := by
  refine KC.I RX6 [(0, .ref (sq Y b))] (by decide) rfl (Nat.le_of_ble_eq_true rfl) rfl (fun G Γ ret => ?_)
  unfold f_X6_worst at hf
  refine g_iconst Γ (pc := 0) (v := (-1)) dX6_worst_0 rfl ?_
  refine g_istore_n Γ (pc := 1) (lv' := [(1, .int (-1)), (0, .ref (sq Y b))]) dX6_worst_1 rfl (by decide) rfl ?_
  refine g_iconst Γ (pc := 2) (v := 0) dX6_worst_2 rfl ?_
  refine g_istore_n Γ (pc := 3) (lv' := [(2, .int 0), (1, .int (-1)), (0, .ref (sq Y b))]) dX6_worst_3 rfl (by decide) rfl ?_
  refine g_iconst Γ (pc := 4) (v := 0) dX6_worst_4 rfl ?_
  refine g_istore_n Γ (pc := 5) (lv' := [(3, .int 0), (2, .int 0), (1, .int (-1)), (0, .ref (sq Y b))]) dX6_worst_5 rfl (by decide) rfl ?_
  have K_6_37 : ∀ (y1_1 : Int32), f_X6_worst_K6_37 y1_1 = some x → G 37 [(1, .int y1_1)] [] μ := by
    intro y1_1 hf
    unfold f_X6_worst_K6_37 at hf
    refine g_iload_n Γ (pc := 37) 0 dX6_worst_37 rfl rfl ?_
    exact rIr ret dX6_worst_38 hf
  refine g_sub Γ [3, 2, 1, 0] rfl ?_
  refine lpF_s (P := fun (v : Int32 × Int32 × Int32) => G 6 [(0, .ref (sq Y b)), (1, .int v.1), (2, .int v.2.1), (3, .int v.2.2)] [] μ) hf (fun v z1 hf kI1 kX1 => ?_)
  obtain ⟨x1_2, x2_3, x3_4⟩ := v
  replace hf : f_X6_worst_L6 b μ x1_2 x2_3 x3_4 = some z1 := hf
  show G 6 [(0, .ref (sq Y b)), (1, .int x1_2), (2, .int x2_3), (3, .int x3_4)] [] μ
  unfold f_X6_worst_L6 at hf
  refine g_iload_n Γ (pc := 6) 3 dX6_worst_6 rfl rfl ?_
  refine g_aload_n Γ (pc := 7) 0 dX6_worst_7 rfl rfl ?_
  refine g_get Γ (pc := 8) (v := .int (μ b 5)) dX6_worst_8 (C_town hC hb) fr_X6_24 rfl ?_
  refine g_icmp_ge Γ (pc := 11) (tgt := 37) dX6_worst_11 rfl hf (fun hf => ?_) (fun hf => ?_)
  · refine g_sub Γ [1] rfl ?_
    exact K_6_37 x1_2 (kX1 x1_2 (Option.some.inj hf).symm)
  · refine g_aload_n Γ (pc := 14) 0 dX6_worst_14 rfl rfl ?_
    refine g_iload_n Γ (pc := 15) 3 dX6_worst_15 rfl rfl ?_
    obtain ⟨v5, h1, hf⟩ := bn1_i hf
    refine g_callVI Γ (pc := 16) (as := [.int x3_4]) (st := []) dX6_worst_16 (c_X6_offOf hC hb h1) (C_town hC hb) rfl mi_X6_offOf mv_X6_offOf kM_X6_83 rfl ⟨Nat.le_of_ble_eq_true rfl, Nat.le_of_ble_eq_true rfl⟩ rfl (Nat.le_of_ble_eq_true rfl) ?_
    refine g_iload_n Γ (pc := 19) 2 dX6_worst_19 rfl rfl ?_
    have J_31 : ∀ (x1_6 : Int32) (x2_7 : Int32), f_X6_worst_J31 x3_4 x1_6 x2_7 = some z1 → G 31 [(0, .ref (sq Y b)), (1, .int x1_6), (2, .int x2_7), (3, .int x3_4)] [] μ := by
      intro x1_6 x2_7 hf
      unfold f_X6_worst_J31 at hf
      refine g_iinc Γ (pc := 31) (v := x3_4 + 1) (lv' := [(3, .int (x3_4 + 1)), (0, .ref (sq Y b)), (1, .int x1_6), (2, .int x2_7)]) 3 dX6_worst_31 rfl rfl (by decide) rfl ?_
      refine g_goto Γ (pc := 34) (tgt := 6) dX6_worst_34 rfl ?_
      refine g_sub Γ [1, 2, 3, 0] rfl ?_
      exact kI1 (x1_6, x2_7, x3_4 + 1) (Option.some.inj hf).symm
    refine g_icmp_le Γ (pc := 20) (tgt := 31) dX6_worst_20 rfl hf (fun hf => ?_) (fun hf => ?_)
    · refine g_sub Γ [0, 1, 2, 3] rfl ?_
      exact J_31 x1_2 x2_3 hf
    · refine g_aload_n Γ (pc := 23) 0 dX6_worst_23 rfl rfl ?_
      refine g_iload_n Γ (pc := 24) 3 dX6_worst_24 rfl rfl ?_
      obtain ⟨v8, h1, hf⟩ := bn1_i hf
      refine g_callVI Γ (pc := 25) (as := [.int x3_4]) (st := []) dX6_worst_25 (c_X6_offOf hC hb h1) (C_town hC hb) rfl mi_X6_offOf mv_X6_offOf kM_X6_83 rfl ⟨Nat.le_of_ble_eq_true rfl, Nat.le_of_ble_eq_true rfl⟩ rfl (Nat.le_of_ble_eq_true rfl) ?_
      refine g_istore_n Γ (pc := 28) (lv' := [(2, .int v8), (0, .ref (sq Y b)), (1, .int x1_2), (3, .int x3_4)]) dX6_worst_28 rfl (by decide) rfl ?_
      refine g_iload_n Γ (pc := 29) 3 dX6_worst_29 rfl rfl ?_
      refine g_istore_n Γ (pc := 30) (lv' := [(1, .int x3_4), (2, .int v8), (0, .ref (sq Y b)), (3, .int x3_4)]) dX6_worst_30 rfl (by decide) rfl ?_
      refine g_sub Γ [2, 0, 1, 3] rfl ?_
      exact J_31 x3_4 v8 hf
def f_X6_lookedAt (b : Nat) (μ : Mem) : Option (Int32 × Mem) :=
  if (μ b 5) = 0 then
    some ((-1), μ)
  else
    if (μ b 8) = 0 then
      some ((-1), μ)
    else
      if (μ b 8) = 1 then
        bn1 (f_X6_worst b μ) fun v4 =>
        some (v4, μ)
      else
        bn2 (f_X6_draw b μ) fun v1 m2 =>
        bn1 (rmM v1 (m2 b 5)) fun v3 =>
        some (v3, m2)
set_option maxRecDepth 100000 in
set_option maxHeartbeats 4000000 in
theorem c_X6_lookedAt {Y : SYS} (hC : IsC Y) {b : Nat} {μ : Mem} {x : Int32} {m : Mem} (hb : TownAt b) (hf : f_X6_lookedAt b μ = some (x, m)) : KC Y yX6_lookedAt cX6_lookedAt 1 (some .int) 5 [.ref (sq Y b)] μ (some (.int x)) m := by
  refine KC.I RX6 [(0, .ref (sq Y b))] (by decide) rfl (Nat.le_of_ble_eq_true rfl) rfl (fun G Γ ret => ?_)
  unfold f_X6_lookedAt at hf
  refine g_aload_n Γ (pc := 0) 0 dX6_lookedAt_0 rfl rfl ?_
  refine g_get Γ (pc := 1) (v := .int (μ b 5)) dX6_lookedAt_1 (C_town hC hb) fr_X6_24 rfl ?_
  refine g_if_eq Γ (pc := 4) (tgt := 14) dX6_lookedAt_4 rfl hf (fun hf => ?_) (fun hf => ?_)
  · refine g_iconst Γ (pc := 14) (v := (-1)) dX6_lookedAt_14 rfl ?_
    exact rI ret dX6_lookedAt_15 hf
  · refine g_aload_n Γ (pc := 7) 0 dX6_lookedAt_7 rfl rfl ?_
    refine g_get Γ (pc := 8) (v := .int (μ b 8)) dX6_lookedAt_8 (C_town hC hb) fr_X6_34 rfl ?_
    refine g_if_ne Γ (pc := 11) (tgt := 16) dX6_lookedAt_11 rfl hf (fun hf => ?_) (fun hf => ?_)
    · refine g_aload_n Γ (pc := 16) 0 dX6_lookedAt_16 rfl rfl ?_
      refine g_get Γ (pc := 17) (v := .int (μ b 8)) dX6_lookedAt_17 (C_town hC hb) fr_X6_34 rfl ?_
      refine g_iconst Γ (pc := 20) (v := 1) dX6_lookedAt_20 rfl ?_
      refine g_icmp_ne Γ (pc := 21) (tgt := 31) dX6_lookedAt_21 rfl hf (fun hf => ?_) (fun hf => ?_)
      · refine g_aload_n Γ (pc := 31) 0 dX6_lookedAt_31 rfl rfl ?_
        obtain ⟨v1, m2, h1, hf⟩ := bn2_i hf
        refine g_callVI Γ (pc := 32) (as := []) (st := []) dX6_lookedAt_32 (c_X6_draw hC hb h1) (C_town hC hb) rfl mi_X6_draw mv_X6_draw kM_X6_136 rfl ⟨Nat.le_of_ble_eq_true rfl, Nat.le_of_ble_eq_true rfl⟩ rfl (Nat.le_of_ble_eq_true rfl) ?_
        refine g_aload_n Γ (pc := 35) 0 dX6_lookedAt_35 rfl rfl ?_
        refine g_get Γ (pc := 36) (v := .int (m2 b 5)) dX6_lookedAt_36 (C_town hC hb) fr_X6_24 rfl ?_
        refine g_irem Γ (pc := 39) dX6_lookedAt_39 hf (fun v3 hf => ?_)
        exact rI ret dX6_lookedAt_40 hf
      · refine g_aload_n Γ (pc := 24) 0 dX6_lookedAt_24 rfl rfl ?_
        obtain ⟨v4, h1, hf⟩ := bn1_i hf
        refine g_callVI Γ (pc := 25) (as := []) (st := []) dX6_lookedAt_25 (c_X6_worst hC hb h1) (C_town hC hb) rfl mi_X6_worst mv_X6_worst kM_X6_133 rfl ⟨Nat.le_of_ble_eq_true rfl, Nat.le_of_ble_eq_true rfl⟩ rfl (Nat.le_of_ble_eq_true rfl) ?_
        refine g_goto Γ (pc := 28) (tgt := 40) dX6_lookedAt_28 rfl ?_
        exact rI ret dX6_lookedAt_40 hf
    · refine g_iconst Γ (pc := 14) (v := (-1)) dX6_lookedAt_14 rfl ?_
      exact rI ret dX6_lookedAt_15 hf
def f_X6_offOfAll_K5_40 (y3_1 : Int32) : Option (Int32) :=
  some y3_1
def f_X6_offOfAll_J34 (x4_3 : Int32) (x3_4 : Int32) : Option ((Int32 × Int32) ⊕ Int32) :=
  some (.inl (x3_4, x4_3 + 1))
def f_X6_offOfAll_L5 (b : Nat) (a0 : Int32) (a1 : Int32) (μ : Mem) (x3_2 : Int32) (x4_3 : Int32) : Option ((Int32 × Int32) ⊕ Int32) :=
  if (μ b 5) ≤ x4_3 then
    some (.inr x3_2)
  else
    if ((a0 >>> (x4_3 &&& 31)) &&& 1) = 1 then
      bn1 (f_X6_off b x4_3 a1 μ) fun v5 =>
      f_X6_offOfAll_J34 x4_3 (x3_2 + v5)
    else
      f_X6_offOfAll_J34 x4_3 x3_2
def f_X6_offOfAll (b : Nat) (a0 : Int32) (a1 : Int32) (μ : Mem) : Option (Int32) :=
  bn1 (lpF (fun v => f_X6_offOfAll_L5 b a0 a1 μ v.1 v.2) 4000 (0, 0)) (fun x => f_X6_offOfAll_K5_40 x)
set_option maxRecDepth 100000 in
set_option maxHeartbeats 4000000 in
theorem c_X6_offOfAll {Y : SYS} (hC : IsC Y) {b : Nat} {a0 : Int32} {a1 : Int32} {μ : Mem} {x : Int32} (hb : TownAt b) (hf : f_X6_offOfAll b a0 a1 μ = some x) : KC Y yX6_offOfAll cX6_offOfAll 5 (some .int) 3 [.ref (sq Y b), .int a0, .int a1] μ (some (.int x)) μ := by
  refine KC.I RX6 [(0, .ref (sq Y b)), (1, .int a0), (2, .int a1)] (by decide) rfl (Nat.le_of_ble_eq_true rfl) rfl (fun G Γ ret => ?_)
  unfold f_X6_offOfAll at hf
  refine g_iconst Γ (pc := 0) (v := 0) dX6_offOfAll_0 rfl ?_
  refine g_istore_n Γ (pc := 1) (lv' := [(3, .int 0), (0, .ref (sq Y b)), (1, .int a0), (2, .int a1)]) dX6_offOfAll_1 rfl (by decide) rfl ?_
  refine g_iconst Γ (pc := 2) (v := 0) dX6_offOfAll_2 rfl ?_
  refine g_istore Γ (pc := 3) (lv' := [(4, .int 0), (3, .int 0), (0, .ref (sq Y b)), (1, .int a0), (2, .int a1)]) dX6_offOfAll_3 (by decide) rfl ?_
  have K_5_40 : ∀ (y3_1 : Int32), f_X6_offOfAll_K5_40 y3_1 = some x → G 40 [(3, .int y3_1)] [] μ := by
    intro y3_1 hf
    unfold f_X6_offOfAll_K5_40 at hf
    refine g_iload_n Γ (pc := 40) 0 dX6_offOfAll_40 rfl rfl ?_
    exact rIr ret dX6_offOfAll_41 hf
  refine g_sub Γ [2, 3, 4, 1, 0] rfl ?_
  refine lpF_s (P := fun (v : Int32 × Int32) => G 5 [(0, .ref (sq Y b)), (1, .int a0), (2, .int a1), (3, .int v.1), (4, .int v.2)] [] μ) hf (fun v z1 hf kI1 kX1 => ?_)
  obtain ⟨x3_2, x4_3⟩ := v
  replace hf : f_X6_offOfAll_L5 b a0 a1 μ x3_2 x4_3 = some z1 := hf
  show G 5 [(0, .ref (sq Y b)), (1, .int a0), (2, .int a1), (3, .int x3_2), (4, .int x4_3)] [] μ
  unfold f_X6_offOfAll_L5 at hf
  refine g_iload Γ (pc := 5) 4 dX6_offOfAll_5 rfl ?_
  refine g_aload_n Γ (pc := 7) 0 dX6_offOfAll_7 rfl rfl ?_
  refine g_get Γ (pc := 8) (v := .int (μ b 5)) dX6_offOfAll_8 (C_town hC hb) fr_X6_24 rfl ?_
  refine g_icmp_ge Γ (pc := 11) (tgt := 40) dX6_offOfAll_11 rfl hf (fun hf => ?_) (fun hf => ?_)
  · refine g_sub Γ [3] rfl ?_
    exact K_5_40 x3_2 (kX1 x3_2 (Option.some.inj hf).symm)
  · refine g_iload_n Γ (pc := 14) 1 dX6_offOfAll_14 rfl rfl ?_
    refine g_iload Γ (pc := 15) 4 dX6_offOfAll_15 rfl ?_
    refine g_ishr Γ (pc := 17) dX6_offOfAll_17 ?_
    refine g_iconst Γ (pc := 18) (v := 1) dX6_offOfAll_18 rfl ?_
    refine g_iand Γ (pc := 19) dX6_offOfAll_19 ?_
    refine g_iconst Γ (pc := 20) (v := 1) dX6_offOfAll_20 rfl ?_
    have J_34 : ∀ (x3_4 : Int32), f_X6_offOfAll_J34 x4_3 x3_4 = some z1 → G 34 [(0, .ref (sq Y b)), (1, .int a0), (2, .int a1), (3, .int x3_4), (4, .int x4_3)] [] μ := by
      intro x3_4 hf
      unfold f_X6_offOfAll_J34 at hf
      refine g_iinc Γ (pc := 34) (v := x4_3 + 1) (lv' := [(4, .int (x4_3 + 1)), (0, .ref (sq Y b)), (1, .int a0), (2, .int a1), (3, .int x3_4)]) 4 dX6_offOfAll_34 rfl rfl (by decide) rfl ?_
      refine g_goto Γ (pc := 37) (tgt := 5) dX6_offOfAll_37 rfl ?_
      refine g_sub Γ [1, 2, 3, 4, 0] rfl ?_
      exact kI1 (x3_4, x4_3 + 1) (Option.some.inj hf).symm
    refine g_icmp_ne Γ (pc := 21) (tgt := 34) dX6_offOfAll_21 rfl hf (fun hf => ?_) (fun hf => ?_)
    · refine g_sub Γ [0, 1, 2, 3, 4] rfl ?_
      exact J_34 x3_2 hf
    · refine g_iload_n Γ (pc := 24) 3 dX6_offOfAll_24 rfl rfl ?_
      refine g_aload_n Γ (pc := 25) 0 dX6_offOfAll_25 rfl rfl ?_
      refine g_iload Γ (pc := 26) 4 dX6_offOfAll_26 rfl ?_
      refine g_iload_n Γ (pc := 28) 2 dX6_offOfAll_28 rfl rfl ?_
      obtain ⟨v5, h1, hf⟩ := bn1_i hf
      refine g_callVI Γ (pc := 29) (as := [.int x4_3, .int a1]) (st := [.int x3_2]) dX6_offOfAll_29 (c_X6_off hC hb h1) (C_town hC hb) rfl mi_X6_off mv_X6_off kM_X6_80 rfl ⟨Nat.le_of_ble_eq_true rfl, Nat.le_of_ble_eq_true rfl⟩ rfl (Nat.le_of_ble_eq_true rfl) ?_
      refine g_iadd Γ (pc := 32) dX6_offOfAll_32 ?_
      refine g_istore_n Γ (pc := 33) (lv' := [(3, .int (x3_2 + v5)), (0, .ref (sq Y b)), (1, .int a0), (2, .int a1), (4, .int x4_3)]) dX6_offOfAll_33 rfl (by decide) rfl ?_
      refine g_sub Γ [1, 2, 3, 0, 4] rfl ?_
      exact J_34 (x3_2 + v5) hf
def f_X6_persuade (b : Nat) (a0 : Int32) (μ : Mem) : Option (Mem) :=
  if a0 < 0 then
    some μ
  else
    if (μ b 5) ≤ a0 then
      some μ
    else
      bn1 (ldM (μ (b + 1)) 10 a0) fun v1 =>
      if v1 = 5 then
        some μ
      else
        bn1 (ldM (μ (b + 4)) 10 a0) fun v2 =>
        nm (v2 ||| ((1 : Int32) <<< (a0 &&& 31))) fun e3 =>
        bn1 (f_X6_offOfAll b e3 ((μ b 6) ^^^ ((1 : Int32) <<< (a0 &&& 31))) μ) fun v4 =>
        bn1 (f_X6_offOfAll b e3 (μ b 6) μ) fun v5 =>
        if v5 ≤ v4 then
          some μ
        else
          bn1 (f_X6_flip b a0 μ) fun m6 =>
          nm (mset m6 b 11 ((m6 b 11) + 1)) fun m7 =>
          bn1 (f_X6_asks b a0 m7) fun v8 =>
          bn1 (f_X6_pay b a0 v8 m7) fun m9 =>
          some m9
set_option maxRecDepth 100000 in
set_option maxHeartbeats 4000000 in
theorem c_X6_persuade {Y : SYS} (hC : IsC Y) {b : Nat} {a0 : Int32} {μ : Mem} {m : Mem} (hb : TownAt b) (hf : f_X6_persuade b a0 μ = some m) : KC Y yX6_persuade cX6_persuade 3 none 4 [.ref (sq Y b), .int a0] μ none m := by
  refine KC.V RX6 [(0, .ref (sq Y b)), (1, .int a0)] (by decide) rfl (Nat.le_of_ble_eq_true rfl) rfl (fun G Γ ret => ?_)
  unfold f_X6_persuade at hf
  refine g_iload_n Γ (pc := 0) 1 dX6_persuade_0 rfl rfl ?_
  refine g_if_lt Γ (pc := 1) (tgt := 22) dX6_persuade_1 rfl hf (fun hf => ?_) (fun hf => ?_)
  · exact rV ret dX6_persuade_22 hf
  · refine g_iload_n Γ (pc := 4) 1 dX6_persuade_4 rfl rfl ?_
    refine g_aload_n Γ (pc := 5) 0 dX6_persuade_5 rfl rfl ?_
    refine g_get Γ (pc := 6) (v := .int (μ b 5)) dX6_persuade_6 (C_town hC hb) fr_X6_24 rfl ?_
    refine g_icmp_ge Γ (pc := 9) (tgt := 22) dX6_persuade_9 rfl hf (fun hf => ?_) (fun hf => ?_)
    · exact rV ret dX6_persuade_22 hf
    · refine g_aload_n Γ (pc := 12) 0 dX6_persuade_12 rfl rfl ?_
      refine g_get Γ (pc := 13) (v := .ref (sq Y (b + 1))) dX6_persuade_13 (C_town hC hb) fr_X6_9 rfl ?_
      refine g_iload_n Γ (pc := 16) 1 dX6_persuade_16 rfl rfl ?_
      refine g_iald Γ (pc := 17) dX6_persuade_17 (C_town1 hC hb) hf (fun v1 hf => ?_)
      refine g_iconst Γ (pc := 18) (v := 5) dX6_persuade_18 rfl ?_
      refine g_icmp_ne Γ (pc := 19) (tgt := 23) dX6_persuade_19 rfl hf (fun hf => ?_) (fun hf => ?_)
      · refine g_aload_n Γ (pc := 23) 0 dX6_persuade_23 rfl rfl ?_
        refine g_get Γ (pc := 24) (v := .ref (sq Y (b + 4))) dX6_persuade_24 (C_town hC hb) fr_X6_21 rfl ?_
        refine g_iload_n Γ (pc := 27) 1 dX6_persuade_27 rfl rfl ?_
        refine g_iald Γ (pc := 28) dX6_persuade_28 (C_town4 hC hb) hf (fun v2 hf => ?_)
        refine g_iconst Γ (pc := 29) (v := 1) dX6_persuade_29 rfl ?_
        refine g_iload_n Γ (pc := 30) 1 dX6_persuade_30 rfl rfl ?_
        refine g_ishl Γ (pc := 31) dX6_persuade_31 ?_
        refine g_ior Γ (pc := 32) dX6_persuade_32 ?_
        refine g_nmi hf (fun e3 hf => ?_)
        refine g_istore_n Γ (pc := 33) (lv' := [(2, .int e3), (0, .ref (sq Y b)), (1, .int a0)]) dX6_persuade_33 rfl (by decide) rfl ?_
        refine g_aload_n Γ (pc := 34) 1 dX6_persuade_34 rfl rfl ?_
        refine g_iload_n Γ (pc := 35) 0 dX6_persuade_35 rfl rfl ?_
        refine g_aload_n Γ (pc := 36) 1 dX6_persuade_36 rfl rfl ?_
        refine g_get Γ (pc := 37) (v := .int (μ b 6)) dX6_persuade_37 (C_town hC hb) fr_X6_28 rfl ?_
        refine g_iconst Γ (pc := 40) (v := 1) dX6_persuade_40 rfl ?_
        refine g_iload_n Γ (pc := 41) 2 dX6_persuade_41 rfl rfl ?_
        refine g_ishl Γ (pc := 42) dX6_persuade_42 ?_
        refine g_ixor Γ (pc := 43) dX6_persuade_43 ?_
        obtain ⟨v4, h1, hf⟩ := bn1_i hf
        refine g_callVI Γ (pc := 44) (as := [.int e3, .int ((μ b 6) ^^^ ((1 : Int32) <<< (a0 &&& 31)))]) (st := []) dX6_persuade_44 (c_X6_offOfAll hC hb h1) (C_town hC hb) rfl mi_X6_offOfAll mv_X6_offOfAll kM_X6_139 rfl ⟨Nat.le_of_ble_eq_true rfl, Nat.le_of_ble_eq_true rfl⟩ rfl (Nat.le_of_ble_eq_true rfl) ?_
        refine g_aload_n Γ (pc := 47) 1 dX6_persuade_47 rfl rfl ?_
        refine g_iload_n Γ (pc := 48) 0 dX6_persuade_48 rfl rfl ?_
        refine g_aload_n Γ (pc := 49) 1 dX6_persuade_49 rfl rfl ?_
        refine g_get Γ (pc := 50) (v := .int (μ b 6)) dX6_persuade_50 (C_town hC hb) fr_X6_28 rfl ?_
        obtain ⟨v5, h1, hf⟩ := bn1_i hf
        refine g_callVI Γ (pc := 53) (as := [.int e3, .int (μ b 6)]) (st := [.int v4]) dX6_persuade_53 (c_X6_offOfAll hC hb h1) (C_town hC hb) rfl mi_X6_offOfAll mv_X6_offOfAll kM_X6_139 rfl ⟨Nat.le_of_ble_eq_true rfl, Nat.le_of_ble_eq_true rfl⟩ rfl (Nat.le_of_ble_eq_true rfl) ?_
        refine g_icmp_ge Γ (pc := 56) (tgt := 84) dX6_persuade_56 rfl hf (fun hf => ?_) (fun hf => ?_)
        · exact rV ret dX6_persuade_84 hf
        · refine g_aload_n Γ (pc := 59) 1 dX6_persuade_59 rfl rfl ?_
          refine g_iload_n Γ (pc := 60) 2 dX6_persuade_60 rfl rfl ?_
          obtain ⟨m6, h1, hf⟩ := bn1_i hf
          refine g_callVV Γ (pc := 61) (as := [.int a0]) (st := []) dX6_persuade_61 (c_X6_flip hC hb h1) (C_town hC hb) rfl mi_X6_flip mv_X6_flip kM_X6_142 rfl ⟨Nat.le_of_ble_eq_true rfl, Nat.le_of_ble_eq_true rfl⟩ rfl (Nat.le_of_ble_eq_true rfl) ?_
          refine g_aload_n Γ (pc := 64) 1 dX6_persuade_64 rfl rfl ?_
          refine g_dup Γ (pc := 65) dX6_persuade_65 rfl ?_
          refine g_get Γ (pc := 66) (v := .int (m6 b 11)) dX6_persuade_66 (C_town hC hb) fr_X6_43 rfl ?_
          refine g_iconst Γ (pc := 69) (v := 1) dX6_persuade_69 rfl ?_
          refine g_iadd Γ (pc := 70) dX6_persuade_70 ?_
          refine g_put Γ (pc := 71) dX6_persuade_71 (C_town hC hb) fw_X6_43 (Nat.le_of_ble_eq_true rfl) rfl ?_
          refine g_nmm hf (fun m7 hf => ?_)
          refine g_aload_n Γ (pc := 74) 1 dX6_persuade_74 rfl rfl ?_
          refine g_iload_n Γ (pc := 75) 2 dX6_persuade_75 rfl rfl ?_
          refine g_aload_n Γ (pc := 76) 1 dX6_persuade_76 rfl rfl ?_
          refine g_iload_n Γ (pc := 77) 2 dX6_persuade_77 rfl rfl ?_
          obtain ⟨v8, h1, hf⟩ := bn1_i hf
          refine g_callVI Γ (pc := 78) (as := [.int a0]) (st := [.int a0, .ref (sq Y b)]) dX6_persuade_78 (c_X6_asks hC hb h1) (C_town hC hb) rfl mi_X6_asks mv_X6_asks kM_X6_145 rfl ⟨Nat.le_of_ble_eq_true rfl, Nat.le_of_ble_eq_true rfl⟩ rfl (Nat.le_of_ble_eq_true rfl) ?_
          obtain ⟨m9, h1, hf⟩ := bn1_i hf
          refine g_callVV Γ (pc := 81) (as := [.int a0, .int v8]) (st := []) dX6_persuade_81 (c_X6_pay hC hb h1) (C_town hC hb) rfl mi_X6_pay mv_X6_pay kM_X6_129 rfl ⟨Nat.le_of_ble_eq_true rfl, Nat.le_of_ble_eq_true rfl⟩ rfl (Nat.le_of_ble_eq_true rfl) ?_
          exact rV ret dX6_persuade_84 hf
      · exact rV ret dX6_persuade_22 hf
def f_X6_haveWhim (b : Nat) (μ : Mem) : Option (Mem) :=
  if (μ b 5) = 0 then
    some μ
  else
    bn2 (f_X6_draw b μ) fun v1 m2 =>
    bn1 (rmM v1 100) fun v3 =>
    if v3 < (m2 b 9) then
      bn2 (f_X6_draw b m2) fun v4 m5 =>
      bn1 (rmM v4 (m5 b 5)) fun v6 =>
      bn1 (ldM (m5 (b + 1)) 10 v6) fun v7 =>
      if v7 = 5 then
        some m5
      else
        bn1 (f_X6_flip b v6 m5) fun m8 =>
        nm (mset m8 b 11 ((m8 b 11) + 1)) fun m9 =>
        some m9
    else
      some m2
set_option maxRecDepth 100000 in
set_option maxHeartbeats 4000000 in
theorem c_X6_haveWhim {Y : SYS} (hC : IsC Y) {b : Nat} {μ : Mem} {m : Mem} (hb : TownAt b) (hf : f_X6_haveWhim b μ = some m) : KC Y yX6_haveWhim cX6_haveWhim 2 none 1 [.ref (sq Y b)] μ none m := by
  refine KC.V RX6 [(0, .ref (sq Y b))] (by decide) rfl (Nat.le_of_ble_eq_true rfl) rfl (fun G Γ ret => ?_)
  unfold f_X6_haveWhim at hf
  refine g_aload_n Γ (pc := 0) 0 dX6_haveWhim_0 rfl rfl ?_
  refine g_get Γ (pc := 1) (v := .int (μ b 5)) dX6_haveWhim_1 (C_town hC hb) fr_X6_24 rfl ?_
  refine g_if_eq Γ (pc := 4) (tgt := 21) dX6_haveWhim_4 rfl hf (fun hf => ?_) (fun hf => ?_)
  · exact rV ret dX6_haveWhim_21 hf
  · refine g_aload_n Γ (pc := 7) 0 dX6_haveWhim_7 rfl rfl ?_
    obtain ⟨v1, m2, h1, hf⟩ := bn2_i hf
    refine g_callVI Γ (pc := 8) (as := []) (st := []) dX6_haveWhim_8 (c_X6_draw hC hb h1) (C_town hC hb) rfl mi_X6_draw mv_X6_draw kM_X6_136 rfl ⟨Nat.le_of_ble_eq_true rfl, Nat.le_of_ble_eq_true rfl⟩ rfl (Nat.le_of_ble_eq_true rfl) ?_
    refine g_bipush Γ (pc := 11) (v := 100) dX6_haveWhim_11 rfl ?_
    refine g_irem Γ (pc := 13) dX6_haveWhim_13 hf (fun v3 hf => ?_)
    refine g_aload_n Γ (pc := 14) 0 dX6_haveWhim_14 rfl rfl ?_
    refine g_get Γ (pc := 15) (v := .int (m2 b 9)) dX6_haveWhim_15 (C_town hC hb) fr_X6_37 rfl ?_
    refine g_icmp_lt Γ (pc := 18) (tgt := 22) dX6_haveWhim_18 rfl hf (fun hf => ?_) (fun hf => ?_)
    · refine g_aload_n Γ (pc := 22) 0 dX6_haveWhim_22 rfl rfl ?_
      obtain ⟨v4, m5, h1, hf⟩ := bn2_i hf
      refine g_callVI Γ (pc := 23) (as := []) (st := []) dX6_haveWhim_23 (c_X6_draw hC hb h1) (C_town hC hb) rfl mi_X6_draw mv_X6_draw kM_X6_136 rfl ⟨Nat.le_of_ble_eq_true rfl, Nat.le_of_ble_eq_true rfl⟩ rfl (Nat.le_of_ble_eq_true rfl) ?_
      refine g_aload_n Γ (pc := 26) 0 dX6_haveWhim_26 rfl rfl ?_
      refine g_get Γ (pc := 27) (v := .int (m5 b 5)) dX6_haveWhim_27 (C_town hC hb) fr_X6_24 rfl ?_
      refine g_irem Γ (pc := 30) dX6_haveWhim_30 hf (fun v6 hf => ?_)
      refine g_istore_n Γ (pc := 31) (lv' := [(1, .int v6), (0, .ref (sq Y b))]) dX6_haveWhim_31 rfl (by decide) rfl ?_
      refine g_aload_n Γ (pc := 32) 1 dX6_haveWhim_32 rfl rfl ?_
      refine g_get Γ (pc := 33) (v := .ref (sq Y (b + 1))) dX6_haveWhim_33 (C_town hC hb) fr_X6_9 rfl ?_
      refine g_iload_n Γ (pc := 36) 0 dX6_haveWhim_36 rfl rfl ?_
      refine g_iald Γ (pc := 37) dX6_haveWhim_37 (C_town1 hC hb) hf (fun v7 hf => ?_)
      refine g_iconst Γ (pc := 38) (v := 5) dX6_haveWhim_38 rfl ?_
      refine g_icmp_eq Γ (pc := 39) (tgt := 57) dX6_haveWhim_39 rfl hf (fun hf => ?_) (fun hf => ?_)
      · exact rV ret dX6_haveWhim_57 hf
      · refine g_aload_n Γ (pc := 42) 1 dX6_haveWhim_42 rfl rfl ?_
        refine g_iload_n Γ (pc := 43) 0 dX6_haveWhim_43 rfl rfl ?_
        obtain ⟨m8, h1, hf⟩ := bn1_i hf
        refine g_callVV Γ (pc := 44) (as := [.int v6]) (st := []) dX6_haveWhim_44 (c_X6_flip hC hb h1) (C_town hC hb) rfl mi_X6_flip mv_X6_flip kM_X6_142 rfl ⟨Nat.le_of_ble_eq_true rfl, Nat.le_of_ble_eq_true rfl⟩ rfl (Nat.le_of_ble_eq_true rfl) ?_
        refine g_aload_n Γ (pc := 47) 1 dX6_haveWhim_47 rfl rfl ?_
        refine g_dup Γ (pc := 48) dX6_haveWhim_48 rfl ?_
        refine g_get Γ (pc := 49) (v := .int (m8 b 11)) dX6_haveWhim_49 (C_town hC hb) fr_X6_43 rfl ?_
        refine g_iconst Γ (pc := 52) (v := 1) dX6_haveWhim_52 rfl ?_
        refine g_iadd Γ (pc := 53) dX6_haveWhim_53 ?_
        refine g_put Γ (pc := 54) dX6_haveWhim_54 (C_town hC hb) fw_X6_43 (Nat.le_of_ble_eq_true rfl) rfl ?_
        refine g_nmm hf (fun m9 hf => ?_)
        exact rV ret dX6_haveWhim_57 hf
    · exact rV ret dX6_haveWhim_21 hf
def f_X6_pass_K2_39 (m1 : Mem) : Option (Mem) :=
  some m1
def f_X6_pass_L2 (b : Nat) (a0 : Int32) (x2_2 : Int32) (m3 : Mem) : Option ((Int32 × Mem) ⊕ Mem) :=
  if a0 ≤ x2_2 then
    some (.inr m3)
  else
    bn1 (f_X6_payDues b m3) fun m4 =>
    bn2 (f_X6_lookedAt b m4) fun v5 m6 =>
    bn1 (f_X6_persuade b v5 m6) fun m7 =>
    bn1 (f_X6_haveWhim b m7) fun m8 =>
    nm (mset m8 b 12 ((m8 b 12) + 1)) fun m9 =>
    some (.inl (x2_2 + 1, m9))
def f_X6_pass (b : Nat) (a0 : Int32) (μ : Mem) : Option (Mem) :=
  bn1 (lpF (fun v => f_X6_pass_L2 b a0 v.1 v.2) 4000 (0, μ)) (fun x => f_X6_pass_K2_39 x)
set_option maxRecDepth 100000 in
set_option maxHeartbeats 4000000 in
theorem c_X6_pass {Y : SYS} (hC : IsC Y) {b : Nat} {a0 : Int32} {μ : Mem} {m : Mem} (hb : TownAt b) (hf : f_X6_pass b a0 μ = some m) : KC Y yX6_pass cX6_pass 3 none 6 [.ref (sq Y b), .int a0] μ none m := by
  refine KC.V RX6 [(0, .ref (sq Y b)), (1, .int a0)] (by decide) rfl (Nat.le_of_ble_eq_true rfl) rfl (fun G Γ ret => ?_)
  unfold f_X6_pass at hf
  refine g_iconst Γ (pc := 0) (v := 0) dX6_pass_0 rfl ?_
  refine g_istore_n Γ (pc := 1) (lv' := [(2, .int 0), (0, .ref (sq Y b)), (1, .int a0)]) dX6_pass_1 rfl (by decide) rfl ?_
  have K_2_39 : ∀ (m1 : Mem), f_X6_pass_K2_39 m1 = some m → G 39 [] [] m1 := by
    intro m1 hf
    unfold f_X6_pass_K2_39 at hf
    exact rV ret dX6_pass_39 hf
  refine g_sub Γ [1, 2, 0] rfl ?_
  refine lpF_s (P := fun (v : Int32 × Mem) => G 2 [(0, .ref (sq Y b)), (1, .int a0), (2, .int v.1)] [] v.2) hf (fun v z1 hf kI1 kX1 => ?_)
  obtain ⟨x2_2, m3⟩ := v
  replace hf : f_X6_pass_L2 b a0 x2_2 m3 = some z1 := hf
  show G 2 [(0, .ref (sq Y b)), (1, .int a0), (2, .int x2_2)] [] m3
  unfold f_X6_pass_L2 at hf
  refine g_iload_n Γ (pc := 2) 2 dX6_pass_2 rfl rfl ?_
  refine g_iload_n Γ (pc := 3) 1 dX6_pass_3 rfl rfl ?_
  refine g_icmp_ge Γ (pc := 4) (tgt := 39) dX6_pass_4 rfl hf (fun hf => ?_) (fun hf => ?_)
  · refine g_sub Γ [] rfl ?_
    exact K_2_39 m3 (kX1 m3 (Option.some.inj hf).symm)
  · refine g_aload_n Γ (pc := 7) 0 dX6_pass_7 rfl rfl ?_
    obtain ⟨m4, h1, hf⟩ := bn1_i hf
    refine g_callVV Γ (pc := 8) (as := []) (st := []) dX6_pass_8 (c_X6_payDues hC hb h1) (C_town hC hb) rfl mi_X6_payDues mv_X6_payDues kM_X6_113 rfl ⟨Nat.le_of_ble_eq_true rfl, Nat.le_of_ble_eq_true rfl⟩ rfl (Nat.le_of_ble_eq_true rfl) ?_
    refine g_aload_n Γ (pc := 11) 0 dX6_pass_11 rfl rfl ?_
    refine g_aload_n Γ (pc := 12) 0 dX6_pass_12 rfl rfl ?_
    obtain ⟨v5, m6, h1, hf⟩ := bn2_i hf
    refine g_callVI Γ (pc := 13) (as := []) (st := [.ref (sq Y b)]) dX6_pass_13 (c_X6_lookedAt hC hb h1) (C_town hC hb) rfl mi_X6_lookedAt mv_X6_lookedAt kM_X6_116 rfl ⟨Nat.le_of_ble_eq_true rfl, Nat.le_of_ble_eq_true rfl⟩ rfl (Nat.le_of_ble_eq_true rfl) ?_
    obtain ⟨m7, h1, hf⟩ := bn1_i hf
    refine g_callVV Γ (pc := 16) (as := [.int v5]) (st := []) dX6_pass_16 (c_X6_persuade hC hb h1) (C_town hC hb) rfl mi_X6_persuade mv_X6_persuade kM_X6_120 rfl ⟨Nat.le_of_ble_eq_true rfl, Nat.le_of_ble_eq_true rfl⟩ rfl (Nat.le_of_ble_eq_true rfl) ?_
    refine g_aload_n Γ (pc := 19) 0 dX6_pass_19 rfl rfl ?_
    obtain ⟨m8, h1, hf⟩ := bn1_i hf
    refine g_callVV Γ (pc := 20) (as := []) (st := []) dX6_pass_20 (c_X6_haveWhim hC hb h1) (C_town hC hb) rfl mi_X6_haveWhim mv_X6_haveWhim kM_X6_124 rfl ⟨Nat.le_of_ble_eq_true rfl, Nat.le_of_ble_eq_true rfl⟩ rfl (Nat.le_of_ble_eq_true rfl) ?_
    refine g_aload_n Γ (pc := 23) 0 dX6_pass_23 rfl rfl ?_
    refine g_dup Γ (pc := 24) dX6_pass_24 rfl ?_
    refine g_get Γ (pc := 25) (v := .int (m8 b 12)) dX6_pass_25 (C_town hC hb) fr_X6_46 rfl ?_
    refine g_iconst Γ (pc := 28) (v := 1) dX6_pass_28 rfl ?_
    refine g_iadd Γ (pc := 29) dX6_pass_29 ?_
    refine g_put Γ (pc := 30) dX6_pass_30 (C_town hC hb) fw_X6_46 (Nat.le_of_ble_eq_true rfl) rfl ?_
    refine g_nmm hf (fun m9 hf => ?_)
    refine g_iinc Γ (pc := 33) (v := x2_2 + 1) (lv' := [(2, .int (x2_2 + 1)), (0, .ref (sq Y b)), (1, .int a0)]) 2 dX6_pass_33 rfl rfl (by decide) rfl ?_
    refine g_goto Γ (pc := 36) (tgt := 2) dX6_pass_36 rfl ?_
    refine g_sub Γ [1, 2, 0] rfl ?_
    exact kI1 (x2_2 + 1, m9) (Option.some.inj hf).symm
def f_X6_become (b : Nat) (b0 : Nat) (μ : Mem) : Option (Mem) :=
  bn1 (cpM μ (b0 + 1) 10 0 (b + 1) 10 0 10) fun m1 =>
  bn1 (cpM m1 (b0 + 2) 10 0 (b + 2) 10 0 10) fun m2 =>
  bn1 (cpM m2 (b0 + 3) 10 0 (b + 3) 10 0 10) fun m3 =>
  bn1 (cpM m3 (b0 + 4) 10 0 (b + 4) 10 0 10) fun m4 =>
  nm (mset m4 b 5 (m4 b0 5)) fun m5 =>
  nm (mset m5 b 6 (m5 b0 6)) fun m6 =>
  nm (mset m6 b 7 (m6 b0 7)) fun m7 =>
  nm (mset m7 b 8 (m7 b0 8)) fun m8 =>
  nm (mset m8 b 9 (m8 b0 9)) fun m9 =>
  nm (mset m9 b 10 (m9 b0 10)) fun m10 =>
  nm (mset m10 b 11 (m10 b0 11)) fun m11 =>
  nm (mset m11 b 12 (m11 b0 12)) fun m12 =>
  nm (mset m12 b 13 (m12 b0 13)) fun m13 =>
  nm (mset m13 b 14 (m13 b0 14)) fun m14 =>
  some m14
set_option maxRecDepth 100000 in
set_option maxHeartbeats 4000000 in
theorem c_X6_become {Y : SYS} (hC : IsC Y) {b : Nat} {b0 : Nat} {μ : Mem} {m : Mem} (hb : TownAt b) (hb0 : TownAt b0) (hf : f_X6_become b b0 μ = some m) : KC Y yX6_become cX6_become 2 none 1 [.ref (sq Y b), .ref (sq Y b0)] μ none m := by
  refine KC.V RX6 [(0, .ref (sq Y b)), (1, .ref (sq Y b0))] (by decide) rfl (Nat.le_of_ble_eq_true rfl) rfl (fun G Γ ret => ?_)
  unfold f_X6_become at hf
  refine g_aload_n Γ (pc := 0) 1 dX6_become_0 rfl rfl ?_
  refine g_get Γ (pc := 1) (v := .ref (sq Y (b0 + 1))) dX6_become_1 (C_town hC hb0) fr_X6_9 rfl ?_
  refine g_iconst Γ (pc := 4) (v := 0) dX6_become_4 rfl ?_
  refine g_aload_n Γ (pc := 5) 0 dX6_become_5 rfl rfl ?_
  refine g_get Γ (pc := 6) (v := .ref (sq Y (b + 1))) dX6_become_6 (C_town hC hb) fr_X6_9 rfl ?_
  refine g_iconst Γ (pc := 9) (v := 0) dX6_become_9 rfl ?_
  refine g_bipush Γ (pc := 10) (v := 10) dX6_become_10 rfl ?_
  refine g_copy Γ (pc := 12) dX6_become_12 (C_town1 hC hb0) (C_town1 hC hb) kM_X6_59 kNat_copy kS_copy kI_J10 (Nat.le_of_ble_eq_true rfl) (Nat.le_of_ble_eq_true rfl) hf (fun m1 hf => ?_)
  refine g_aload_n Γ (pc := 15) 1 dX6_become_15 rfl rfl ?_
  refine g_get Γ (pc := 16) (v := .ref (sq Y (b0 + 2))) dX6_become_16 (C_town hC hb0) fr_X6_15 rfl ?_
  refine g_iconst Γ (pc := 19) (v := 0) dX6_become_19 rfl ?_
  refine g_aload_n Γ (pc := 20) 0 dX6_become_20 rfl rfl ?_
  refine g_get Γ (pc := 21) (v := .ref (sq Y (b + 2))) dX6_become_21 (C_town hC hb) fr_X6_15 rfl ?_
  refine g_iconst Γ (pc := 24) (v := 0) dX6_become_24 rfl ?_
  refine g_bipush Γ (pc := 25) (v := 10) dX6_become_25 rfl ?_
  refine g_copy Γ (pc := 27) dX6_become_27 (C_town2 hC hb0) (C_town2 hC hb) kM_X6_59 kNat_copy kS_copy kI_J10 (Nat.le_of_ble_eq_true rfl) (Nat.le_of_ble_eq_true rfl) hf (fun m2 hf => ?_)
  refine g_aload_n Γ (pc := 30) 1 dX6_become_30 rfl rfl ?_
  refine g_get Γ (pc := 31) (v := .ref (sq Y (b0 + 3))) dX6_become_31 (C_town hC hb0) fr_X6_18 rfl ?_
  refine g_iconst Γ (pc := 34) (v := 0) dX6_become_34 rfl ?_
  refine g_aload_n Γ (pc := 35) 0 dX6_become_35 rfl rfl ?_
  refine g_get Γ (pc := 36) (v := .ref (sq Y (b + 3))) dX6_become_36 (C_town hC hb) fr_X6_18 rfl ?_
  refine g_iconst Γ (pc := 39) (v := 0) dX6_become_39 rfl ?_
  refine g_bipush Γ (pc := 40) (v := 10) dX6_become_40 rfl ?_
  refine g_copy Γ (pc := 42) dX6_become_42 (C_town3 hC hb0) (C_town3 hC hb) kM_X6_59 kNat_copy kS_copy kI_J10 (Nat.le_of_ble_eq_true rfl) (Nat.le_of_ble_eq_true rfl) hf (fun m3 hf => ?_)
  refine g_aload_n Γ (pc := 45) 1 dX6_become_45 rfl rfl ?_
  refine g_get Γ (pc := 46) (v := .ref (sq Y (b0 + 4))) dX6_become_46 (C_town hC hb0) fr_X6_21 rfl ?_
  refine g_iconst Γ (pc := 49) (v := 0) dX6_become_49 rfl ?_
  refine g_aload_n Γ (pc := 50) 0 dX6_become_50 rfl rfl ?_
  refine g_get Γ (pc := 51) (v := .ref (sq Y (b + 4))) dX6_become_51 (C_town hC hb) fr_X6_21 rfl ?_
  refine g_iconst Γ (pc := 54) (v := 0) dX6_become_54 rfl ?_
  refine g_bipush Γ (pc := 55) (v := 10) dX6_become_55 rfl ?_
  refine g_copy Γ (pc := 57) dX6_become_57 (C_town4 hC hb0) (C_town4 hC hb) kM_X6_59 kNat_copy kS_copy kI_J10 (Nat.le_of_ble_eq_true rfl) (Nat.le_of_ble_eq_true rfl) hf (fun m4 hf => ?_)
  refine g_aload_n Γ (pc := 60) 0 dX6_become_60 rfl rfl ?_
  refine g_aload_n Γ (pc := 61) 1 dX6_become_61 rfl rfl ?_
  refine g_get Γ (pc := 62) (v := .int (m4 b0 5)) dX6_become_62 (C_town hC hb0) fr_X6_24 rfl ?_
  refine g_put Γ (pc := 65) dX6_become_65 (C_town hC hb) fw_X6_24 (Nat.le_of_ble_eq_true rfl) rfl ?_
  refine g_nmm hf (fun m5 hf => ?_)
  refine g_aload_n Γ (pc := 68) 0 dX6_become_68 rfl rfl ?_
  refine g_aload_n Γ (pc := 69) 1 dX6_become_69 rfl rfl ?_
  refine g_get Γ (pc := 70) (v := .int (m5 b0 6)) dX6_become_70 (C_town hC hb0) fr_X6_28 rfl ?_
  refine g_put Γ (pc := 73) dX6_become_73 (C_town hC hb) fw_X6_28 (Nat.le_of_ble_eq_true rfl) rfl ?_
  refine g_nmm hf (fun m6 hf => ?_)
  refine g_aload_n Γ (pc := 76) 0 dX6_become_76 rfl rfl ?_
  refine g_aload_n Γ (pc := 77) 1 dX6_become_77 rfl rfl ?_
  refine g_get Γ (pc := 78) (v := .int (m6 b0 7)) dX6_become_78 (C_town hC hb0) fr_X6_31 rfl ?_
  refine g_put Γ (pc := 81) dX6_become_81 (C_town hC hb) fw_X6_31 (Nat.le_of_ble_eq_true rfl) rfl ?_
  refine g_nmm hf (fun m7 hf => ?_)
  refine g_aload_n Γ (pc := 84) 0 dX6_become_84 rfl rfl ?_
  refine g_aload_n Γ (pc := 85) 1 dX6_become_85 rfl rfl ?_
  refine g_get Γ (pc := 86) (v := .int (m7 b0 8)) dX6_become_86 (C_town hC hb0) fr_X6_34 rfl ?_
  refine g_put Γ (pc := 89) dX6_become_89 (C_town hC hb) fw_X6_34 (Nat.le_of_ble_eq_true rfl) rfl ?_
  refine g_nmm hf (fun m8 hf => ?_)
  refine g_aload_n Γ (pc := 92) 0 dX6_become_92 rfl rfl ?_
  refine g_aload_n Γ (pc := 93) 1 dX6_become_93 rfl rfl ?_
  refine g_get Γ (pc := 94) (v := .int (m8 b0 9)) dX6_become_94 (C_town hC hb0) fr_X6_37 rfl ?_
  refine g_put Γ (pc := 97) dX6_become_97 (C_town hC hb) fw_X6_37 (Nat.le_of_ble_eq_true rfl) rfl ?_
  refine g_nmm hf (fun m9 hf => ?_)
  refine g_aload_n Γ (pc := 100) 0 dX6_become_100 rfl rfl ?_
  refine g_aload_n Γ (pc := 101) 1 dX6_become_101 rfl rfl ?_
  refine g_get Γ (pc := 102) (v := .int (m9 b0 10)) dX6_become_102 (C_town hC hb0) fr_X6_40 rfl ?_
  refine g_put Γ (pc := 105) dX6_become_105 (C_town hC hb) fw_X6_40 (Nat.le_of_ble_eq_true rfl) rfl ?_
  refine g_nmm hf (fun m10 hf => ?_)
  refine g_aload_n Γ (pc := 108) 0 dX6_become_108 rfl rfl ?_
  refine g_aload_n Γ (pc := 109) 1 dX6_become_109 rfl rfl ?_
  refine g_get Γ (pc := 110) (v := .int (m10 b0 11)) dX6_become_110 (C_town hC hb0) fr_X6_43 rfl ?_
  refine g_put Γ (pc := 113) dX6_become_113 (C_town hC hb) fw_X6_43 (Nat.le_of_ble_eq_true rfl) rfl ?_
  refine g_nmm hf (fun m11 hf => ?_)
  refine g_aload_n Γ (pc := 116) 0 dX6_become_116 rfl rfl ?_
  refine g_aload_n Γ (pc := 117) 1 dX6_become_117 rfl rfl ?_
  refine g_get Γ (pc := 118) (v := .int (m11 b0 12)) dX6_become_118 (C_town hC hb0) fr_X6_46 rfl ?_
  refine g_put Γ (pc := 121) dX6_become_121 (C_town hC hb) fw_X6_46 (Nat.le_of_ble_eq_true rfl) rfl ?_
  refine g_nmm hf (fun m12 hf => ?_)
  refine g_aload_n Γ (pc := 124) 0 dX6_become_124 rfl rfl ?_
  refine g_aload_n Γ (pc := 125) 1 dX6_become_125 rfl rfl ?_
  refine g_get Γ (pc := 126) (v := .int (m12 b0 13)) dX6_become_126 (C_town hC hb0) fr_X6_49 rfl ?_
  refine g_put Γ (pc := 129) dX6_become_129 (C_town hC hb) fw_X6_49 (Nat.le_of_ble_eq_true rfl) rfl ?_
  refine g_nmm hf (fun m13 hf => ?_)
  refine g_aload_n Γ (pc := 132) 0 dX6_become_132 rfl rfl ?_
  refine g_aload_n Γ (pc := 133) 1 dX6_become_133 rfl rfl ?_
  refine g_get Γ (pc := 134) (v := .int (m13 b0 14)) dX6_become_134 (C_town hC hb0) fr_X6_52 rfl ?_
  refine g_put Γ (pc := 137) dX6_become_137 (C_town hC hb) fw_X6_52 (Nat.le_of_ble_eq_true rfl) rfl ?_
  refine g_nmm hf (fun m14 hf => ?_)
  exact rV ret dX6_become_140 hf
def f_X4_isMissing (b : Nat) (μ : Mem) : Option (Int32) :=
  if (μ b 1) = (-1) then
    some 1
  else
    some 0
set_option maxRecDepth 100000 in
set_option maxHeartbeats 4000000 in
theorem c_X4_isMissing {Y : SYS} (hC : IsC Y) {b : Nat} {μ : Mem} {x : Int32} (hb : RowAt b) (hf : f_X4_isMissing b μ = some x) : KC Y yX4_isMissing cX4_isMissing 1 (some .boolean) 0 [.ref (sq Y b)] μ (some (.int x)) μ := by
  refine KC.Z RX4 [(0, .ref (sq Y b))] (by decide) rfl (Nat.le_of_ble_eq_true rfl) rfl (fun G Γ ret => ?_)
  unfold f_X4_isMissing at hf
  refine g_aload_n Γ (pc := 0) 0 dX4_isMissing_0 rfl rfl ?_
  refine g_get Γ (pc := 1) (v := .int (μ b 1)) dX4_isMissing_1 (C_row hC hb) fr_X4_15 rfl ?_
  refine g_iconst Γ (pc := 4) (v := (-1)) dX4_isMissing_4 rfl ?_
  refine g_icmp_ne Γ (pc := 5) (tgt := 12) dX4_isMissing_5 rfl hf (fun hf => ?_) (fun hf => ?_)
  · refine g_iconst Γ (pc := 12) (v := 0) dX4_isMissing_12 rfl ?_
    exact rZkr ret dX4_isMissing_13 (Or.inl rfl) hf
  · refine g_iconst Γ (pc := 8) (v := 1) dX4_isMissing_8 rfl ?_
    refine g_goto Γ (pc := 9) (tgt := 13) dX4_isMissing_9 rfl ?_
    exact rZkr ret dX4_isMissing_13 (Or.inr rfl) hf
def f_X4_hasNo (b : Nat) (a0 : Int32) (μ : Mem) : Option (Int32) :=
  if a0 < 0 then
    some 1
  else
    if a0 < (μ b 2) then
      some 0
    else
      some 1
set_option maxRecDepth 100000 in
set_option maxHeartbeats 4000000 in
theorem c_X4_hasNo {Y : SYS} (hC : IsC Y) {b : Nat} {a0 : Int32} {μ : Mem} {x : Int32} (hb : RowAt b) (hf : f_X4_hasNo b a0 μ = some x) : KC Y yX4_hasNo cX4_hasNo 2 (some .boolean) 0 [.ref (sq Y b), .int a0] μ (some (.int x)) μ := by
  refine KC.Z RX4 [(0, .ref (sq Y b)), (1, .int a0)] (by decide) rfl (Nat.le_of_ble_eq_true rfl) rfl (fun G Γ ret => ?_)
  unfold f_X4_hasNo at hf
  refine g_iload_n Γ (pc := 0) 1 dX4_hasNo_0 rfl rfl ?_
  refine g_if_lt Γ (pc := 1) (tgt := 12) dX4_hasNo_1 rfl hf (fun hf => ?_) (fun hf => ?_)
  · refine g_iconst Γ (pc := 12) (v := 1) dX4_hasNo_12 rfl ?_
    refine g_goto Γ (pc := 13) (tgt := 17) dX4_hasNo_13 rfl ?_
    exact rZkr ret dX4_hasNo_17 (Or.inr rfl) hf
  · refine g_iload_n Γ (pc := 4) 1 dX4_hasNo_4 rfl rfl ?_
    refine g_aload_n Γ (pc := 5) 0 dX4_hasNo_5 rfl rfl ?_
    refine g_get Γ (pc := 6) (v := .int (μ b 2)) dX4_hasNo_6 (C_row hC hb) fr_X4_19 rfl ?_
    refine g_icmp_lt Γ (pc := 9) (tgt := 16) dX4_hasNo_9 rfl hf (fun hf => ?_) (fun hf => ?_)
    · refine g_iconst Γ (pc := 16) (v := 0) dX4_hasNo_16 rfl ?_
      exact rZkr ret dX4_hasNo_17 (Or.inl rfl) hf
    · refine g_iconst Γ (pc := 12) (v := 1) dX4_hasNo_12 rfl ?_
      refine g_goto Γ (pc := 13) (tgt := 17) dX4_hasNo_13 rfl ?_
      exact rZkr ret dX4_hasNo_17 (Or.inr rfl) hf
def f_X4_isNumber (b : Nat) (a0 : Int32) (μ : Mem) : Option (Int32) :=
  bn1 (f_X4_hasNo b a0 μ) fun v1 =>
  if v1 = 0 then
    bn1 (ldM (μ (b + 1)) 24 a0) fun v2 =>
    if v2 = (-1000000005) then
      some 0
    else
      some 1
  else
    some 0
set_option maxRecDepth 100000 in
set_option maxHeartbeats 4000000 in
theorem c_X4_isNumber {Y : SYS} (hC : IsC Y) {b : Nat} {a0 : Int32} {μ : Mem} {x : Int32} (hb : RowAt b) (hf : f_X4_isNumber b a0 μ = some x) : KC Y yX4_isNumber cX4_isNumber 2 (some .boolean) 1 [.ref (sq Y b), .int a0] μ (some (.int x)) μ := by
  refine KC.Z RX4 [(0, .ref (sq Y b)), (1, .int a0)] (by decide) rfl (Nat.le_of_ble_eq_true rfl) rfl (fun G Γ ret => ?_)
  unfold f_X4_isNumber at hf
  refine g_aload_n Γ (pc := 0) 0 dX4_isNumber_0 rfl rfl ?_
  refine g_iload_n Γ (pc := 1) 1 dX4_isNumber_1 rfl rfl ?_
  obtain ⟨v1, h1, hf⟩ := bn1_i hf
  refine g_callVI Γ (pc := 2) (as := [.int a0]) (st := []) dX4_isNumber_2 (c_X4_hasNo hC hb h1) (C_row hC hb) rfl mi_X4_hasNo mv_X4_hasNo kM_X4_28 rfl ⟨Nat.le_of_ble_eq_true rfl, Nat.le_of_ble_eq_true rfl⟩ rfl (Nat.le_of_ble_eq_true rfl) ?_
  refine g_if_ne Γ (pc := 5) (tgt := 23) dX4_isNumber_5 rfl hf (fun hf => ?_) (fun hf => ?_)
  · refine g_iconst Γ (pc := 23) (v := 0) dX4_isNumber_23 rfl ?_
    exact rZkr ret dX4_isNumber_24 (Or.inl rfl) hf
  · refine g_aload_n Γ (pc := 8) 0 dX4_isNumber_8 rfl rfl ?_
    refine g_get Γ (pc := 9) (v := .ref (sq Y (b + 1))) dX4_isNumber_9 (C_row hC hb) fr_X4_9 rfl ?_
    refine g_iload_n Γ (pc := 12) 1 dX4_isNumber_12 rfl rfl ?_
    refine g_iald Γ (pc := 13) dX4_isNumber_13 (C_row1 hC hb) hf (fun v2 hf => ?_)
    refine g_ldc Γ (pc := 14) dX4_isNumber_14 kK_X4_32 ?_
    refine g_icmp_eq Γ (pc := 16) (tgt := 23) dX4_isNumber_16 rfl hf (fun hf => ?_) (fun hf => ?_)
    · refine g_iconst Γ (pc := 23) (v := 0) dX4_isNumber_23 rfl ?_
      exact rZkr ret dX4_isNumber_24 (Or.inl rfl) hf
    · refine g_iconst Γ (pc := 19) (v := 1) dX4_isNumber_19 rfl ?_
      refine g_goto Γ (pc := 20) (tgt := 24) dX4_isNumber_20 rfl ?_
      exact rZkr ret dX4_isNumber_24 (Or.inr rfl) hf
def f_X0_write (a0 : Int32) (μ : Mem) : Option (Mem) :=
  if a0 < 0 then
    some μ
  else
    if a0 < 14 then
      bn1 (stM μ 2 14 a0 (μ 38 6)) fun m1 =>
      bn1 (stM m1 3 14 a0 (m1 38 7)) fun m2 =>
      bn1 (stM m2 4 14 a0 (m2 38 8)) fun m3 =>
      bn1 (rdM 14 a0) fun j4 =>
      bn1 (cpM m3 40 96 0 (7 + j4) 96 0 96) fun m5 =>
      some m5
    else
      some μ
set_option maxRecDepth 100000 in
set_option maxHeartbeats 4000000 in
theorem c_X0_write {Y : SYS} (hC : IsC Y) {a0 : Int32} {μ : Mem} {m : Mem} (hf : f_X0_write a0 μ = some m) : KC Y yX0_write cX0_write 3 none 1 [.ref (sq Y 1), .int a0, .ref (sq Y 38)] μ none m := by
  refine KC.V RX0 [(0, .ref (sq Y 1)), (1, .int a0), (2, .ref (sq Y 38))] (by decide) rfl (Nat.le_of_ble_eq_true rfl) rfl (fun G Γ ret => ?_)
  unfold f_X0_write at hf
  refine g_iload_n Γ (pc := 0) 1 dX0_write_0 rfl rfl ?_
  refine g_if_lt Γ (pc := 1) (tgt := 10) dX0_write_1 rfl hf (fun hf => ?_) (fun hf => ?_)
  · exact rV ret dX0_write_10 hf
  · refine g_iload_n Γ (pc := 4) 1 dX0_write_4 rfl rfl ?_
    refine g_bipush Γ (pc := 5) (v := 14) dX0_write_5 rfl ?_
    refine g_icmp_lt Γ (pc := 7) (tgt := 11) dX0_write_7 rfl hf (fun hf => ?_) (fun hf => ?_)
    · refine g_aload_n Γ (pc := 11) 0 dX0_write_11 rfl rfl ?_
      refine g_get Γ (pc := 12) (v := .ref (sq Y 2)) dX0_write_12 (C_book hC) fr_X0_9 rfl ?_
      refine g_iload_n Γ (pc := 15) 1 dX0_write_15 rfl rfl ?_
      refine g_aload_n Γ (pc := 16) 2 dX0_write_16 rfl rfl ?_
      refine g_get Γ (pc := 17) (v := .int (μ 38 6)) dX0_write_17 (C_reader hC) fr_X0_29 rfl ?_
      refine g_iast Γ (pc := 20) dX0_write_20 (C_2 hC) hf (fun m1 hf => ?_)
      refine g_aload_n Γ (pc := 21) 0 dX0_write_21 rfl rfl ?_
      refine g_get Γ (pc := 22) (v := .ref (sq Y 3)) dX0_write_22 (C_book hC) fr_X0_15 rfl ?_
      refine g_iload_n Γ (pc := 25) 1 dX0_write_25 rfl rfl ?_
      refine g_aload_n Γ (pc := 26) 2 dX0_write_26 rfl rfl ?_
      refine g_get Γ (pc := 27) (v := .int (m1 38 7)) dX0_write_27 (C_reader hC) fr_X0_35 rfl ?_
      refine g_iast Γ (pc := 30) dX0_write_30 (C_3 hC) hf (fun m2 hf => ?_)
      refine g_aload_n Γ (pc := 31) 0 dX0_write_31 rfl rfl ?_
      refine g_get Γ (pc := 32) (v := .ref (sq Y 4)) dX0_write_32 (C_book hC) fr_X0_18 rfl ?_
      refine g_iload_n Γ (pc := 35) 1 dX0_write_35 rfl rfl ?_
      refine g_aload_n Γ (pc := 36) 2 dX0_write_36 rfl rfl ?_
      refine g_get Γ (pc := 37) (v := .int (m2 38 8)) dX0_write_37 (C_reader hC) fr_X0_37 rfl ?_
      refine g_iast Γ (pc := 40) dX0_write_40 (C_4 hC) hf (fun m3 hf => ?_)
      refine g_aload_n Γ (pc := 41) 2 dX0_write_41 rfl rfl ?_
      refine g_get Γ (pc := 42) (v := .ref (sq Y 40)) dX0_write_42 (C_reader hC) fr_X0_40 rfl ?_
      refine g_iconst Γ (pc := 45) (v := 0) dX0_write_45 rfl ?_
      refine g_aload_n Γ (pc := 46) 0 dX0_write_46 rfl rfl ?_
      refine g_get Γ (pc := 47) (v := .ref (sq Y 5)) dX0_write_47 (C_book hC) fr_X0_23 rfl ?_
      refine g_iload_n Γ (pc := 50) 1 dX0_write_50 rfl rfl ?_
      refine g_aaldT Γ (pc := 51) dX0_write_51 (C_steps hC) hf (fun j4 hj4 hf => ?_)
      refine g_iconst Γ (pc := 52) (v := 0) dX0_write_52 rfl ?_
      refine g_bipush Γ (pc := 53) (v := 96) dX0_write_53 rfl ?_
      refine g_copy Γ (pc := 55) dX0_write_55 (C_40 hC) (C_stepsAt hC hj4) kM_X0_42 kNat_copy kS_copy kI_J10 (Nat.le_of_ble_eq_true rfl) (Nat.le_of_ble_eq_true rfl) hf (fun m5 hf => ?_)
      exact rV ret dX0_write_58 hf
    · exact rV ret dX0_write_10 hf
def f_X4_begin_K12_31 (m3 : Mem) : Option (Mem) :=
  some m3
def f_X4_begin_L12 (b : Nat) (x3_4 : Int32) (m5 : Mem) : Option ((Int32 × Mem) ⊕ Mem) :=
  if 24 ≤ x3_4 then
    some (.inr m5)
  else
    bn1 (stM m5 (b + 1) 24 x3_4 0) fun m6 =>
    some (.inl (x3_4 + 1, m6))
def f_X4_begin (b : Nat) (a0 : Int32) (a1 : Int32) (μ : Mem) : Option (Mem) :=
  nm (mset μ b 1 a0) fun m1 =>
  nm (mset m1 b 2 a1) fun m2 =>
  bn1 (lpF (fun v => f_X4_begin_L12 b v.1 v.2) 4000 (0, m2)) (fun x => f_X4_begin_K12_31 x)
set_option maxRecDepth 100000 in
set_option maxHeartbeats 4000000 in
theorem c_X4_begin {Y : SYS} (hC : IsC Y) {b : Nat} {a0 : Int32} {a1 : Int32} {μ : Mem} {m : Mem} (hb : RowAt b) (hf : f_X4_begin b a0 a1 μ = some m) : KC Y yX4_begin cX4_begin 4 none 0 [.ref (sq Y b), .int a0, .int a1] μ none m := by
  refine KC.V RX4 [(0, .ref (sq Y b)), (1, .int a0), (2, .int a1)] (by decide) rfl (Nat.le_of_ble_eq_true rfl) rfl (fun G Γ ret => ?_)
  unfold f_X4_begin at hf
  refine g_aload_n Γ (pc := 0) 0 dX4_begin_0 rfl rfl ?_
  refine g_iload_n Γ (pc := 1) 1 dX4_begin_1 rfl rfl ?_
  refine g_put Γ (pc := 2) dX4_begin_2 (C_row hC hb) fw_X4_15 (Nat.le_of_ble_eq_true rfl) rfl ?_
  refine g_nmm hf (fun m1 hf => ?_)
  refine g_aload_n Γ (pc := 5) 0 dX4_begin_5 rfl rfl ?_
  refine g_iload_n Γ (pc := 6) 2 dX4_begin_6 rfl rfl ?_
  refine g_put Γ (pc := 7) dX4_begin_7 (C_row hC hb) fw_X4_19 (Nat.le_of_ble_eq_true rfl) rfl ?_
  refine g_nmm hf (fun m2 hf => ?_)
  refine g_iconst Γ (pc := 10) (v := 0) dX4_begin_10 rfl ?_
  refine g_istore_n Γ (pc := 11) (lv' := [(3, .int 0), (0, .ref (sq Y b)), (1, .int a0), (2, .int a1)]) dX4_begin_11 rfl (by decide) rfl ?_
  have K_12_31 : ∀ (m3 : Mem), f_X4_begin_K12_31 m3 = some m → G 31 [] [] m3 := by
    intro m3 hf
    unfold f_X4_begin_K12_31 at hf
    exact rV ret dX4_begin_31 hf
  refine g_sub Γ [1, 0] rfl ?_
  refine lpF_s (P := fun (v : Int32 × Mem) => G 12 [(0, .ref (sq Y b)), (3, .int v.1)] [] v.2) hf (fun v z1 hf kI1 kX1 => ?_)
  obtain ⟨x3_4, m5⟩ := v
  replace hf : f_X4_begin_L12 b x3_4 m5 = some z1 := hf
  show G 12 [(0, .ref (sq Y b)), (3, .int x3_4)] [] m5
  unfold f_X4_begin_L12 at hf
  refine g_iload_n Γ (pc := 12) 1 dX4_begin_12 rfl rfl ?_
  refine g_bipush Γ (pc := 13) (v := 24) dX4_begin_13 rfl ?_
  refine g_icmp_ge Γ (pc := 15) (tgt := 31) dX4_begin_15 rfl hf (fun hf => ?_) (fun hf => ?_)
  · refine g_sub Γ [] rfl ?_
    exact K_12_31 m5 (kX1 m5 (Option.some.inj hf).symm)
  · refine g_aload_n Γ (pc := 18) 0 dX4_begin_18 rfl rfl ?_
    refine g_get Γ (pc := 19) (v := .ref (sq Y (b + 1))) dX4_begin_19 (C_row hC hb) fr_X4_9 rfl ?_
    refine g_iload_n Γ (pc := 22) 1 dX4_begin_22 rfl rfl ?_
    refine g_iconst Γ (pc := 23) (v := 0) dX4_begin_23 rfl ?_
    refine g_iast Γ (pc := 24) dX4_begin_24 (C_row1 hC hb) hf (fun m6 hf => ?_)
    refine g_iinc Γ (pc := 25) (v := x3_4 + 1) (lv' := [(3, .int (x3_4 + 1)), (0, .ref (sq Y b))]) 1 dX4_begin_25 rfl rfl (by decide) rfl ?_
    refine g_goto Γ (pc := 28) (tgt := 12) dX4_begin_28 rfl ?_
    refine g_sub Γ [1, 0] rfl ?_
    exact kI1 (x3_4 + 1, m6) (Option.some.inj hf).symm
def f_X4_lacks (b : Nat) (a0 : Int32) (a1 : Int32) (μ : Mem) : Option (Int32) :=
  if a0 < 0 then
    some 1
  else
    if a1 < 0 then
      some 1
    else
      if a0 ≤ ((μ b 2) - a1) then
        some 0
      else
        some 1
set_option maxRecDepth 100000 in
set_option maxHeartbeats 4000000 in
theorem c_X4_lacks {Y : SYS} (hC : IsC Y) {b : Nat} {a0 : Int32} {a1 : Int32} {μ : Mem} {x : Int32} (hb : RowAt b) (hf : f_X4_lacks b a0 a1 μ = some x) : KC Y yX4_lacks cX4_lacks 3 (some .boolean) 0 [.ref (sq Y b), .int a0, .int a1] μ (some (.int x)) μ := by
  refine KC.Z RX4 [(0, .ref (sq Y b)), (1, .int a0), (2, .int a1)] (by decide) rfl (Nat.le_of_ble_eq_true rfl) rfl (fun G Γ ret => ?_)
  unfold f_X4_lacks at hf
  refine g_iload_n Γ (pc := 0) 1 dX4_lacks_0 rfl rfl ?_
  refine g_if_lt Γ (pc := 1) (tgt := 18) dX4_lacks_1 rfl hf (fun hf => ?_) (fun hf => ?_)
  · refine g_iconst Γ (pc := 18) (v := 1) dX4_lacks_18 rfl ?_
    refine g_goto Γ (pc := 19) (tgt := 23) dX4_lacks_19 rfl ?_
    exact rZkr ret dX4_lacks_23 (Or.inr rfl) hf
  · refine g_iload_n Γ (pc := 4) 2 dX4_lacks_4 rfl rfl ?_
    refine g_if_lt Γ (pc := 5) (tgt := 18) dX4_lacks_5 rfl hf (fun hf => ?_) (fun hf => ?_)
    · refine g_iconst Γ (pc := 18) (v := 1) dX4_lacks_18 rfl ?_
      refine g_goto Γ (pc := 19) (tgt := 23) dX4_lacks_19 rfl ?_
      exact rZkr ret dX4_lacks_23 (Or.inr rfl) hf
    · refine g_iload_n Γ (pc := 8) 1 dX4_lacks_8 rfl rfl ?_
      refine g_aload_n Γ (pc := 9) 0 dX4_lacks_9 rfl rfl ?_
      refine g_get Γ (pc := 10) (v := .int (μ b 2)) dX4_lacks_10 (C_row hC hb) fr_X4_19 rfl ?_
      refine g_iload_n Γ (pc := 13) 2 dX4_lacks_13 rfl rfl ?_
      refine g_isub Γ (pc := 14) dX4_lacks_14 ?_
      refine g_icmp_le Γ (pc := 15) (tgt := 22) dX4_lacks_15 rfl hf (fun hf => ?_) (fun hf => ?_)
      · refine g_iconst Γ (pc := 22) (v := 0) dX4_lacks_22 rfl ?_
        exact rZkr ret dX4_lacks_23 (Or.inl rfl) hf
      · refine g_iconst Γ (pc := 18) (v := 1) dX4_lacks_18 rfl ?_
        refine g_goto Γ (pc := 19) (tgt := 23) dX4_lacks_19 rfl ?_
        exact rZkr ret dX4_lacks_23 (Or.inr rfl) hf
def f_X4_become (b : Nat) (b0 : Nat) (μ : Mem) : Option (Mem) :=
  nm (mset μ b 1 (μ b0 1)) fun m1 =>
  nm (mset m1 b 2 (m1 b0 2)) fun m2 =>
  bn1 (cpM m2 (b0 + 1) 24 0 (b + 1) 24 0 24) fun m3 =>
  some m3
set_option maxRecDepth 100000 in
set_option maxHeartbeats 4000000 in
theorem c_X4_become {Y : SYS} (hC : IsC Y) {b : Nat} {b0 : Nat} {μ : Mem} {m : Mem} (hb : RowAt b) (hb0 : RowAt b0) (hf : f_X4_become b b0 μ = some m) : KC Y yX4_become cX4_become 2 none 1 [.ref (sq Y b), .ref (sq Y b0)] μ none m := by
  refine KC.V RX4 [(0, .ref (sq Y b)), (1, .ref (sq Y b0))] (by decide) rfl (Nat.le_of_ble_eq_true rfl) rfl (fun G Γ ret => ?_)
  unfold f_X4_become at hf
  refine g_aload_n Γ (pc := 0) 0 dX4_become_0 rfl rfl ?_
  refine g_aload_n Γ (pc := 1) 1 dX4_become_1 rfl rfl ?_
  refine g_get Γ (pc := 2) (v := .int (μ b0 1)) dX4_become_2 (C_row hC hb0) fr_X4_15 rfl ?_
  refine g_put Γ (pc := 5) dX4_become_5 (C_row hC hb) fw_X4_15 (Nat.le_of_ble_eq_true rfl) rfl ?_
  refine g_nmm hf (fun m1 hf => ?_)
  refine g_aload_n Γ (pc := 8) 0 dX4_become_8 rfl rfl ?_
  refine g_aload_n Γ (pc := 9) 1 dX4_become_9 rfl rfl ?_
  refine g_get Γ (pc := 10) (v := .int (m1 b0 2)) dX4_become_10 (C_row hC hb0) fr_X4_19 rfl ?_
  refine g_put Γ (pc := 13) dX4_become_13 (C_row hC hb) fw_X4_19 (Nat.le_of_ble_eq_true rfl) rfl ?_
  refine g_nmm hf (fun m2 hf => ?_)
  refine g_aload_n Γ (pc := 16) 1 dX4_become_16 rfl rfl ?_
  refine g_get Γ (pc := 17) (v := .ref (sq Y (b0 + 1))) dX4_become_17 (C_row hC hb0) fr_X4_9 rfl ?_
  refine g_iconst Γ (pc := 20) (v := 0) dX4_become_20 rfl ?_
  refine g_aload_n Γ (pc := 21) 0 dX4_become_21 rfl rfl ?_
  refine g_get Γ (pc := 22) (v := .ref (sq Y (b + 1))) dX4_become_22 (C_row hC hb) fr_X4_9 rfl ?_
  refine g_iconst Γ (pc := 25) (v := 0) dX4_become_25 rfl ?_
  refine g_bipush Γ (pc := 26) (v := 24) dX4_become_26 rfl ?_
  refine g_copy Γ (pc := 28) dX4_become_28 (C_row1 hC hb0) (C_row1 hC hb) kM_X4_22 kNat_copy kS_copy kI_J10 (Nat.le_of_ble_eq_true rfl) (Nat.le_of_ble_eq_true rfl) hf (fun m3 hf => ?_)
  exact rV ret dX4_become_31 hf
def f_X5_isNot (b : Nat) (a0 : Int32) (μ : Mem) : Option (Int32) :=
  if (μ b 1) = 0 then
    some (-1000000011)
  else
    if (μ b 1) = a0 then
      some 0
    else
      some (-1000000012)
set_option maxRecDepth 100000 in
set_option maxHeartbeats 4000000 in
theorem c_X5_isNot {Y : SYS} (hC : IsC Y) {b : Nat} {a0 : Int32} {μ : Mem} {x : Int32} (hb : SlotAt b) (hf : f_X5_isNot b a0 μ = some x) : KC Y yX5_isNot cX5_isNot 2 (some .int) 0 [.ref (sq Y b), .int a0] μ (some (.int x)) μ := by
  refine KC.I RX5 [(0, .ref (sq Y b)), (1, .int a0)] (by decide) rfl (Nat.le_of_ble_eq_true rfl) rfl (fun G Γ ret => ?_)
  unfold f_X5_isNot at hf
  refine g_aload_n Γ (pc := 0) 0 dX5_isNot_0 rfl rfl ?_
  refine g_get Γ (pc := 1) (v := .int (μ b 1)) dX5_isNot_1 (C_slot hC hb) fr_X5_18 rfl ?_
  refine g_if_ne Γ (pc := 4) (tgt := 10) dX5_isNot_4 rfl hf (fun hf => ?_) (fun hf => ?_)
  · refine g_aload_n Γ (pc := 10) 0 dX5_isNot_10 rfl rfl ?_
    refine g_get Γ (pc := 11) (v := .int (μ b 1)) dX5_isNot_11 (C_slot hC hb) fr_X5_18 rfl ?_
    refine g_iload_n Γ (pc := 14) 1 dX5_isNot_14 rfl rfl ?_
    refine g_icmp_ne Γ (pc := 15) (tgt := 22) dX5_isNot_15 rfl hf (fun hf => ?_) (fun hf => ?_)
    · refine g_ldc Γ (pc := 22) dX5_isNot_22 kK_X5_32 ?_
      exact rIr ret dX5_isNot_24 hf
    · refine g_iconst Γ (pc := 18) (v := 0) dX5_isNot_18 rfl ?_
      refine g_goto Γ (pc := 19) (tgt := 24) dX5_isNot_19 rfl ?_
      exact rIr ret dX5_isNot_24 hf
  · refine g_ldc Γ (pc := 7) dX5_isNot_7 kK_X5_31 ?_
    exact rIr ret dX5_isNot_9 hf
