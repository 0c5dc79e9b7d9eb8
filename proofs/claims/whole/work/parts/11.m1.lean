def f_X8_isIn (a0 : Int64) (a1 : Int64) (a2 : Int64) : Option (Int32) :=
  if (lg_cmp a0 a1) < 0 then
    some 0
  else
    if 0 < (lg_cmp a0 a2) then
      some 0
    else
      some 1
set_option maxRecDepth 100000 in
set_option maxHeartbeats 4000000 in
theorem c_X8_isIn {Y : SYS} {a0 : Int64} {a1 : Int64} {a2 : Int64} {μ : Mem} {x : Int32} (hf : f_X8_isIn a0 a1 a2 = some x) : KC Y yX8_isIn cX8_isIn 6 (some .boolean) 0 [.long a0, .long a1, .long a2] μ (some (.int x)) μ := by
  refine KC.Z RX8 [(0, .long a0), (2, .long a1), (4, .long a2)] (by decide) rfl (Nat.le_of_ble_eq_true rfl) rfl (fun G Γ ret => ?_)
  unfold f_X8_isIn at hf
  refine g_lload_n Γ (pc := 0) 0 dX8_isIn_0 rfl rfl ?_
  refine g_lload_n Γ (pc := 1) 1 dX8_isIn_1 rfl rfl ?_
  refine g_lcmp Γ (pc := 2) dX8_isIn_2 ?_
  refine g_if_lt Γ (pc := 3) (tgt := 17) dX8_isIn_3 rfl hf (fun hf => ?_) (fun hf => ?_)
  · refine g_iconst Γ (pc := 17) (v := 0) dX8_isIn_17 rfl ?_
    exact rZkr ret dX8_isIn_18 (Or.inl rfl) hf
  · refine g_lload_n Γ (pc := 6) 0 dX8_isIn_6 rfl rfl ?_
    refine g_lload Γ (pc := 7) 2 dX8_isIn_7 rfl ?_
    refine g_lcmp Γ (pc := 9) dX8_isIn_9 ?_
    refine g_if_gt Γ (pc := 10) (tgt := 17) dX8_isIn_10 rfl hf (fun hf => ?_) (fun hf => ?_)
    · refine g_iconst Γ (pc := 17) (v := 0) dX8_isIn_17 rfl ?_
      exact rZkr ret dX8_isIn_18 (Or.inl rfl) hf
    · refine g_iconst Γ (pc := 13) (v := 1) dX8_isIn_13 rfl ?_
      refine g_goto Γ (pc := 14) (tgt := 18) dX8_isIn_14 rfl ?_
      exact rZkr ret dX8_isIn_18 (Or.inr rfl) hf
def f_X8_sets (a0 : Int32) (a1 : Int32) (a2 : Int32) (μ : Mem) : Option (Mem) :=
  bn1 (stM μ 1 3059 ((9 + (5 * a0)) + a1) a2) fun m1 =>
  some m1
set_option maxRecDepth 100000 in
set_option maxHeartbeats 4000000 in
theorem c_X8_sets {Y : SYS} (hM : IsM Y) {a0 : Int32} {a1 : Int32} {a2 : Int32} {μ : Mem} {m : Mem} (hf : f_X8_sets a0 a1 a2 μ = some m) : KC Y yX8_sets cX8_sets 4 none 0 [.ref (sq Y 0), .int a0, .int a1, .int a2] μ none m := by
  refine KC.V RX8 [(0, .ref (sq Y 0)), (1, .int a0), (2, .int a1), (3, .int a2)] (by decide) rfl (Nat.le_of_ble_eq_true rfl) rfl (fun G Γ ret => ?_)
  unfold f_X8_sets at hf
  refine g_aload_n Γ (pc := 0) 0 dX8_sets_0 rfl rfl ?_
  refine g_get Γ (pc := 1) (v := .ref (sq Y 1)) dX8_sets_1 (M_obj hM) fr_X8_7 rfl ?_
  refine g_bipush Γ (pc := 4) (v := 9) dX8_sets_4 rfl ?_
  refine g_iconst Γ (pc := 6) (v := 5) dX8_sets_6 rfl ?_
  refine g_iload_n Γ (pc := 7) 1 dX8_sets_7 rfl rfl ?_
  refine g_imul Γ (pc := 8) dX8_sets_8 ?_
  refine g_iadd Γ (pc := 9) dX8_sets_9 ?_
  refine g_iload_n Γ (pc := 10) 2 dX8_sets_10 rfl rfl ?_
  refine g_iadd Γ (pc := 11) dX8_sets_11 ?_
  refine g_iload_n Γ (pc := 12) 3 dX8_sets_12 rfl rfl ?_
  refine g_iast Γ (pc := 13) dX8_sets_13 (M_1 hM) hf (fun m1 hf => ?_)
  exact rV ret dX8_sets_14 hf
def f_X8_comes (a0 : Int32) (a1 : Int32) (a2 : Int32) (μ : Mem) : Option (Mem) :=
  bn1 (ldM (μ 1) 3059 0) fun v1 =>
  bn1 (ldM (μ 1) 3059 0) fun v2 =>
  bn1 (stM μ 1 3059 0 (v2 + 1)) fun m3 =>
  bn1 (f_X8_sets v1 0 a0 m3) fun m4 =>
  bn1 (f_X8_sets v1 1 a1 m4) fun m5 =>
  bn1 (f_X8_sets v1 2 a2 m5) fun m6 =>
  bn1 (f_X8_sets v1 3 0 m6) fun m7 =>
  bn1 (f_X8_sets v1 4 0 m7) fun m8 =>
  some m8
set_option maxRecDepth 100000 in
set_option maxHeartbeats 4000000 in
theorem c_X8_comes {Y : SYS} (hM : IsM Y) {a0 : Int32} {a1 : Int32} {a2 : Int32} {μ : Mem} {m : Mem} (hf : f_X8_comes a0 a1 a2 μ = some m) : KC Y yX8_comes cX8_comes 5 none 1 [.ref (sq Y 0), .int a0, .int a1, .int a2] μ none m := by
  refine KC.V RX8 [(0, .ref (sq Y 0)), (1, .int a0), (2, .int a1), (3, .int a2)] (by decide) rfl (Nat.le_of_ble_eq_true rfl) rfl (fun G Γ ret => ?_)
  unfold f_X8_comes at hf
  refine g_aload_n Γ (pc := 0) 0 dX8_comes_0 rfl rfl ?_
  refine g_get Γ (pc := 1) (v := .ref (sq Y 1)) dX8_comes_1 (M_obj hM) fr_X8_7 rfl ?_
  refine g_iconst Γ (pc := 4) (v := 0) dX8_comes_4 rfl ?_
  refine g_iald Γ (pc := 5) dX8_comes_5 (M_1 hM) hf (fun v1 hf => ?_)
  refine g_istore Γ (pc := 6) (lv' := [(4, .int v1), (0, .ref (sq Y 0)), (1, .int a0), (2, .int a1), (3, .int a2)]) dX8_comes_6 (by decide) rfl ?_
  refine g_aload_n Γ (pc := 8) 1 dX8_comes_8 rfl rfl ?_
  refine g_get Γ (pc := 9) (v := .ref (sq Y 1)) dX8_comes_9 (M_obj hM) fr_X8_7 rfl ?_
  refine g_iconst Γ (pc := 12) (v := 0) dX8_comes_12 rfl ?_
  refine g_dup2 Γ (pc := 13) dX8_comes_13 rfl rfl ?_
  refine g_iald Γ (pc := 14) dX8_comes_14 (M_1 hM) hf (fun v2 hf => ?_)
  refine g_iconst Γ (pc := 15) (v := 1) dX8_comes_15 rfl ?_
  refine g_iadd Γ (pc := 16) dX8_comes_16 ?_
  refine g_iast Γ (pc := 17) dX8_comes_17 (M_1 hM) hf (fun m3 hf => ?_)
  refine g_aload_n Γ (pc := 18) 1 dX8_comes_18 rfl rfl ?_
  refine g_iload Γ (pc := 19) 0 dX8_comes_19 rfl ?_
  refine g_iconst Γ (pc := 21) (v := 0) dX8_comes_21 rfl ?_
  refine g_iload_n Γ (pc := 22) 2 dX8_comes_22 rfl rfl ?_
  obtain ⟨m4, h1, hf⟩ := bn1_i hf
  refine g_callVV Γ (pc := 23) (as := [.int v1, .int 0, .int a0]) (st := []) dX8_comes_23 (c_X8_sets hM h1) (M_obj hM) rfl mi_X8_sets mv_X8_sets kM_X8_70 rfl ⟨Nat.le_of_ble_eq_true rfl, Nat.le_of_ble_eq_true rfl⟩ rfl (Nat.le_of_ble_eq_true rfl) ?_
  refine g_aload_n Γ (pc := 26) 1 dX8_comes_26 rfl rfl ?_
  refine g_iload Γ (pc := 27) 0 dX8_comes_27 rfl ?_
  refine g_iconst Γ (pc := 29) (v := 1) dX8_comes_29 rfl ?_
  refine g_iload_n Γ (pc := 30) 3 dX8_comes_30 rfl rfl ?_
  obtain ⟨m5, h1, hf⟩ := bn1_i hf
  refine g_callVV Γ (pc := 31) (as := [.int v1, .int 1, .int a1]) (st := []) dX8_comes_31 (c_X8_sets hM h1) (M_obj hM) rfl mi_X8_sets mv_X8_sets kM_X8_70 rfl ⟨Nat.le_of_ble_eq_true rfl, Nat.le_of_ble_eq_true rfl⟩ rfl (Nat.le_of_ble_eq_true rfl) ?_
  refine g_aload_n Γ (pc := 34) 1 dX8_comes_34 rfl rfl ?_
  refine g_iload Γ (pc := 35) 0 dX8_comes_35 rfl ?_
  refine g_iconst Γ (pc := 37) (v := 2) dX8_comes_37 rfl ?_
  refine g_iload_n Γ (pc := 38) 4 dX8_comes_38 rfl rfl ?_
  obtain ⟨m6, h1, hf⟩ := bn1_i hf
  refine g_callVV Γ (pc := 39) (as := [.int v1, .int 2, .int a2]) (st := []) dX8_comes_39 (c_X8_sets hM h1) (M_obj hM) rfl mi_X8_sets mv_X8_sets kM_X8_70 rfl ⟨Nat.le_of_ble_eq_true rfl, Nat.le_of_ble_eq_true rfl⟩ rfl (Nat.le_of_ble_eq_true rfl) ?_
  refine g_aload_n Γ (pc := 42) 1 dX8_comes_42 rfl rfl ?_
  refine g_iload Γ (pc := 43) 0 dX8_comes_43 rfl ?_
  refine g_iconst Γ (pc := 45) (v := 3) dX8_comes_45 rfl ?_
  refine g_iconst Γ (pc := 46) (v := 0) dX8_comes_46 rfl ?_
  obtain ⟨m7, h1, hf⟩ := bn1_i hf
  refine g_callVV Γ (pc := 47) (as := [.int v1, .int 3, .int 0]) (st := []) dX8_comes_47 (c_X8_sets hM h1) (M_obj hM) rfl mi_X8_sets mv_X8_sets kM_X8_70 rfl ⟨Nat.le_of_ble_eq_true rfl, Nat.le_of_ble_eq_true rfl⟩ rfl (Nat.le_of_ble_eq_true rfl) ?_
  refine g_aload_n Γ (pc := 50) 1 dX8_comes_50 rfl rfl ?_
  refine g_iload Γ (pc := 51) 0 dX8_comes_51 rfl ?_
  refine g_iconst Γ (pc := 53) (v := 4) dX8_comes_53 rfl ?_
  refine g_iconst Γ (pc := 54) (v := 0) dX8_comes_54 rfl ?_
  obtain ⟨m8, h1, hf⟩ := bn1_i hf
  refine g_callVV Γ (pc := 55) (as := [.int v1, .int 4, .int 0]) (st := []) dX8_comes_55 (c_X8_sets hM h1) (M_obj hM) rfl mi_X8_sets mv_X8_sets kM_X8_70 rfl ⟨Nat.le_of_ble_eq_true rfl, Nat.le_of_ble_eq_true rfl⟩ rfl (Nat.le_of_ble_eq_true rfl) ?_
  exact rV ret dX8_comes_58 hf
def f_X8_person (a0 : Int32) (a1 : Int32) (a2 : Int32) (μ : Mem) : Option (Int32 × Mem) :=
  bn1 (f_X8_isIn a0.toInt64 0 5) fun v1 =>
  if v1 = 0 then
    some ((-1000000001), μ)
  else
    bn1 (f_X8_isIn a1.toInt64 0 1) fun v2 =>
    if v2 = 0 then
      some ((-1000000001), μ)
    else
      bn1 (f_X8_isIn a2.toInt64 0 99) fun v3 =>
      if v3 = 0 then
        some ((-1000000001), μ)
      else
        bn1 (ldM (μ 1) 3059 0) fun v4 =>
        if v4 = 10 then
          some ((-1000000003), μ)
        else
          bn1 (f_X8_comes a0 a1 a2 μ) fun m5 =>
          bn1 (ldM (m5 1) 3059 0) fun v6 =>
          some ((v6 - 1), m5)
set_option maxRecDepth 100000 in
set_option maxHeartbeats 4000000 in
theorem c_X8_person {Y : SYS} (hM : IsM Y) {a0 : Int32} {a1 : Int32} {a2 : Int32} {μ : Mem} {x : Int32} {m : Mem} (hf : f_X8_person a0 a1 a2 μ = some (x, m)) : KC Y yX8_person cX8_person 4 (some .int) 2 [.ref (sq Y 0), .int a0, .int a1, .int a2] μ (some (.int x)) m := by
  refine KC.I RX8 [(0, .ref (sq Y 0)), (1, .int a0), (2, .int a1), (3, .int a2)] (by decide) rfl (Nat.le_of_ble_eq_true rfl) rfl (fun G Γ ret => ?_)
  unfold f_X8_person at hf
  refine g_iload_n Γ (pc := 0) 1 dX8_person_0 rfl rfl ?_
  refine g_i2l Γ (pc := 1) dX8_person_1 ?_
  refine g_lconst Γ (pc := 2) (v := 0) dX8_person_2 rfl ?_
  refine g_ldc2 Γ (pc := 3) dX8_person_3 kL_X8_74 ?_
  obtain ⟨v1, h1, hf⟩ := bn1_i hf
  refine g_callSI Γ (pc := 6) (as := [.long a0.toInt64, .long 0, .long 5]) (st := []) dX8_person_6 (c_X8_isIn h1) mi_X8_isIn ms_X8_isIn kM_X8_65 rfl ⟨Nat.le_of_ble_eq_true rfl, Nat.le_of_ble_eq_true rfl⟩ rfl (Nat.le_of_ble_eq_true rfl) ?_
  refine g_if_eq Γ (pc := 9) (tgt := 34) dX8_person_9 rfl hf (fun hf => ?_) (fun hf => ?_)
  · refine g_ldc Γ (pc := 34) dX8_person_34 kK_X8_78 ?_
    exact rI ret dX8_person_36 hf
  · refine g_iload_n Γ (pc := 12) 2 dX8_person_12 rfl rfl ?_
    refine g_i2l Γ (pc := 13) dX8_person_13 ?_
    refine g_lconst Γ (pc := 14) (v := 0) dX8_person_14 rfl ?_
    refine g_lconst Γ (pc := 15) (v := 1) dX8_person_15 rfl ?_
    obtain ⟨v2, h1, hf⟩ := bn1_i hf
    refine g_callSI Γ (pc := 16) (as := [.long a1.toInt64, .long 0, .long 1]) (st := []) dX8_person_16 (c_X8_isIn h1) mi_X8_isIn ms_X8_isIn kM_X8_65 rfl ⟨Nat.le_of_ble_eq_true rfl, Nat.le_of_ble_eq_true rfl⟩ rfl (Nat.le_of_ble_eq_true rfl) ?_
    refine g_if_eq Γ (pc := 19) (tgt := 34) dX8_person_19 rfl hf (fun hf => ?_) (fun hf => ?_)
    · refine g_ldc Γ (pc := 34) dX8_person_34 kK_X8_78 ?_
      exact rI ret dX8_person_36 hf
    · refine g_iload_n Γ (pc := 22) 3 dX8_person_22 rfl rfl ?_
      refine g_i2l Γ (pc := 23) dX8_person_23 ?_
      refine g_lconst Γ (pc := 24) (v := 0) dX8_person_24 rfl ?_
      refine g_ldc2 Γ (pc := 25) dX8_person_25 kL_X8_76 ?_
      obtain ⟨v3, h1, hf⟩ := bn1_i hf
      refine g_callSI Γ (pc := 28) (as := [.long a2.toInt64, .long 0, .long 99]) (st := []) dX8_person_28 (c_X8_isIn h1) mi_X8_isIn ms_X8_isIn kM_X8_65 rfl ⟨Nat.le_of_ble_eq_true rfl, Nat.le_of_ble_eq_true rfl⟩ rfl (Nat.le_of_ble_eq_true rfl) ?_
      refine g_if_ne Γ (pc := 31) (tgt := 37) dX8_person_31 rfl hf (fun hf => ?_) (fun hf => ?_)
      · refine g_aload_n Γ (pc := 37) 0 dX8_person_37 rfl rfl ?_
        refine g_get Γ (pc := 38) (v := .ref (sq Y 1)) dX8_person_38 (M_obj hM) fr_X8_7 rfl ?_
        refine g_iconst Γ (pc := 41) (v := 0) dX8_person_41 rfl ?_
        refine g_iald Γ (pc := 42) dX8_person_42 (M_1 hM) hf (fun v4 hf => ?_)
        refine g_bipush Γ (pc := 43) (v := 10) dX8_person_43 rfl ?_
        refine g_icmp_ne Γ (pc := 45) (tgt := 51) dX8_person_45 rfl hf (fun hf => ?_) (fun hf => ?_)
        · refine g_aload_n Γ (pc := 51) 0 dX8_person_51 rfl rfl ?_
          refine g_iload_n Γ (pc := 52) 1 dX8_person_52 rfl rfl ?_
          refine g_iload_n Γ (pc := 53) 2 dX8_person_53 rfl rfl ?_
          refine g_iload_n Γ (pc := 54) 3 dX8_person_54 rfl rfl ?_
          obtain ⟨m5, h1, hf⟩ := bn1_i hf
          refine g_callVV Γ (pc := 55) (as := [.int a0, .int a1, .int a2]) (st := []) dX8_person_55 (c_X8_comes hM h1) (M_obj hM) rfl mi_X8_comes mv_X8_comes kM_X8_80 rfl ⟨Nat.le_of_ble_eq_true rfl, Nat.le_of_ble_eq_true rfl⟩ rfl (Nat.le_of_ble_eq_true rfl) ?_
          refine g_aload_n Γ (pc := 58) 0 dX8_person_58 rfl rfl ?_
          refine g_get Γ (pc := 59) (v := .ref (sq Y 1)) dX8_person_59 (M_obj hM) fr_X8_7 rfl ?_
          refine g_iconst Γ (pc := 62) (v := 0) dX8_person_62 rfl ?_
          refine g_iald Γ (pc := 63) dX8_person_63 (M_1 hM) hf (fun v6 hf => ?_)
          refine g_iconst Γ (pc := 64) (v := 1) dX8_person_64 rfl ?_
          refine g_isub Γ (pc := 65) dX8_person_65 ?_
          exact rI ret dX8_person_66 hf
        · refine g_ldc Γ (pc := 48) dX8_person_48 kK_X8_79 ?_
          exact rI ret dX8_person_50 hf
      · refine g_ldc Γ (pc := 34) dX8_person_34 kK_X8_78 ?_
        exact rI ret dX8_person_36 hf
def f_X8_isOne (a0 : Int32) (μ : Mem) : Option (Int32) :=
  bn1 (ldM (μ 1) 3059 0) fun v1 =>
  bn1 (f_X8_isIn a0.toInt64 0 ((v1 - 1).toInt64)) fun v2 =>
  zM v2
set_option maxRecDepth 100000 in
set_option maxHeartbeats 4000000 in
theorem c_X8_isOne {Y : SYS} (hM : IsM Y) {a0 : Int32} {μ : Mem} {x : Int32} (hf : f_X8_isOne a0 μ = some x) : KC Y yX8_isOne cX8_isOne 2 (some .boolean) 1 [.ref (sq Y 0), .int a0] μ (some (.int x)) μ := by
  refine KC.Z RX8 [(0, .ref (sq Y 0)), (1, .int a0)] (by decide) rfl (Nat.le_of_ble_eq_true rfl) rfl (fun G Γ ret => ?_)
  unfold f_X8_isOne at hf
  refine g_iload_n Γ (pc := 0) 1 dX8_isOne_0 rfl rfl ?_
  refine g_i2l Γ (pc := 1) dX8_isOne_1 ?_
  refine g_lconst Γ (pc := 2) (v := 0) dX8_isOne_2 rfl ?_
  refine g_aload_n Γ (pc := 3) 0 dX8_isOne_3 rfl rfl ?_
  refine g_get Γ (pc := 4) (v := .ref (sq Y 1)) dX8_isOne_4 (M_obj hM) fr_X8_7 rfl ?_
  refine g_iconst Γ (pc := 7) (v := 0) dX8_isOne_7 rfl ?_
  refine g_iald Γ (pc := 8) dX8_isOne_8 (M_1 hM) hf (fun v1 hf => ?_)
  refine g_iconst Γ (pc := 9) (v := 1) dX8_isOne_9 rfl ?_
  refine g_isub Γ (pc := 10) dX8_isOne_10 ?_
  refine g_i2l Γ (pc := 11) dX8_isOne_11 ?_
  obtain ⟨v2, h1, hf⟩ := bn1_i hf
  refine g_callSI Γ (pc := 12) (as := [.long a0.toInt64, .long 0, .long ((v1 - 1).toInt64)]) (st := []) dX8_isOne_12 (c_X8_isIn h1) mi_X8_isIn ms_X8_isIn kM_X8_65 rfl ⟨Nat.le_of_ble_eq_true rfl, Nat.le_of_ble_eq_true rfl⟩ rfl (Nat.le_of_ble_eq_true rfl) ?_
  exact rZr ret dX8_isOne_15 hf
def f_X8_of (a0 : Int32) (a1 : Int32) (μ : Mem) : Option (Int32) :=
  bn1 (ldM (μ 1) 3059 ((9 + (5 * a0)) + a1)) fun v1 =>
  some v1
set_option maxRecDepth 100000 in
set_option maxHeartbeats 4000000 in
theorem c_X8_of {Y : SYS} (hM : IsM Y) {a0 : Int32} {a1 : Int32} {μ : Mem} {x : Int32} (hf : f_X8_of a0 a1 μ = some x) : KC Y yX8_of cX8_of 3 (some .int) 0 [.ref (sq Y 0), .int a0, .int a1] μ (some (.int x)) μ := by
  refine KC.I RX8 [(0, .ref (sq Y 0)), (1, .int a0), (2, .int a1)] (by decide) rfl (Nat.le_of_ble_eq_true rfl) rfl (fun G Γ ret => ?_)
  unfold f_X8_of at hf
  refine g_aload_n Γ (pc := 0) 0 dX8_of_0 rfl rfl ?_
  refine g_get Γ (pc := 1) (v := .ref (sq Y 1)) dX8_of_1 (M_obj hM) fr_X8_7 rfl ?_
  refine g_bipush Γ (pc := 4) (v := 9) dX8_of_4 rfl ?_
  refine g_iconst Γ (pc := 6) (v := 5) dX8_of_6 rfl ?_
  refine g_iload_n Γ (pc := 7) 1 dX8_of_7 rfl rfl ?_
  refine g_imul Γ (pc := 8) dX8_of_8 ?_
  refine g_iadd Γ (pc := 9) dX8_of_9 ?_
  refine g_iload_n Γ (pc := 10) 2 dX8_of_10 rfl rfl ?_
  refine g_iadd Γ (pc := 11) dX8_of_11 ?_
  refine g_iald Γ (pc := 12) dX8_of_12 (M_1 hM) hf (fun v1 hf => ?_)
  exact rIr ret dX8_of_13 hf
def f_X8_forNow_K4_31 (y1_1 : Int32) : Option (Int32) :=
  some y1_1
def f_X8_forNow_L4 (μ : Mem) (x1_2 : Int32) (x2_3 : Int32) : Option ((Int32 × Int32) ⊕ Int32) :=
  bn1 (ldM (μ 1) 3059 0) fun v4 =>
  if v4 ≤ x2_3 then
    some (.inr x1_2)
  else
    bn1 (f_X8_of x2_3 1 μ) fun v5 =>
    nm (x1_2 ||| (v5 <<< (x2_3 &&& 31))) fun e6 =>
    some (.inl (e6, x2_3 + 1))
def f_X8_forNow (μ : Mem) : Option (Int32) :=
  bn1 (lpF (fun v => f_X8_forNow_L4 μ v.1 v.2) 4000 (0, 0)) (fun x => f_X8_forNow_K4_31 x)
set_option maxRecDepth 100000 in
set_option maxHeartbeats 4000000 in
theorem c_X8_forNow {Y : SYS} (hM : IsM Y) {μ : Mem} {x : Int32} (hf : f_X8_forNow μ = some x) : KC Y yX8_forNow cX8_forNow 3 (some .int) 1 [.ref (sq Y 0)] μ (some (.int x)) μ := by
  refine KC.I RX8 [(0, .ref (sq Y 0))] (by decide) rfl (Nat.le_of_ble_eq_true rfl) rfl (fun G Γ ret => ?_)
  unfold f_X8_forNow at hf
  refine g_iconst Γ (pc := 0) (v := 0) dX8_forNow_0 rfl ?_
  refine g_istore_n Γ (pc := 1) (lv' := [(1, .int 0), (0, .ref (sq Y 0))]) dX8_forNow_1 rfl (by decide) rfl ?_
  refine g_iconst Γ (pc := 2) (v := 0) dX8_forNow_2 rfl ?_
  refine g_istore_n Γ (pc := 3) (lv' := [(2, .int 0), (1, .int 0), (0, .ref (sq Y 0))]) dX8_forNow_3 rfl (by decide) rfl ?_
  have K_4_31 : ∀ (y1_1 : Int32), f_X8_forNow_K4_31 y1_1 = some x → G 31 [(1, .int y1_1)] [] μ := by
    intro y1_1 hf
    unfold f_X8_forNow_K4_31 at hf
    refine g_iload_n Γ (pc := 31) 0 dX8_forNow_31 rfl rfl ?_
    exact rIr ret dX8_forNow_32 hf
  refine g_sub Γ [2, 1, 0] rfl ?_
  refine lpF_s (P := fun (v : Int32 × Int32) => G 4 [(0, .ref (sq Y 0)), (1, .int v.1), (2, .int v.2)] [] μ) hf (fun v z1 hf kI1 kX1 => ?_)
  obtain ⟨x1_2, x2_3⟩ := v
  replace hf : f_X8_forNow_L4 μ x1_2 x2_3 = some z1 := hf
  show G 4 [(0, .ref (sq Y 0)), (1, .int x1_2), (2, .int x2_3)] [] μ
  unfold f_X8_forNow_L4 at hf
  refine g_iload_n Γ (pc := 4) 2 dX8_forNow_4 rfl rfl ?_
  refine g_aload_n Γ (pc := 5) 0 dX8_forNow_5 rfl rfl ?_
  refine g_get Γ (pc := 6) (v := .ref (sq Y 1)) dX8_forNow_6 (M_obj hM) fr_X8_7 rfl ?_
  refine g_iconst Γ (pc := 9) (v := 0) dX8_forNow_9 rfl ?_
  refine g_iald Γ (pc := 10) dX8_forNow_10 (M_1 hM) hf (fun v4 hf => ?_)
  refine g_icmp_ge Γ (pc := 11) (tgt := 31) dX8_forNow_11 rfl hf (fun hf => ?_) (fun hf => ?_)
  · refine g_sub Γ [1] rfl ?_
    exact K_4_31 x1_2 (kX1 x1_2 (Option.some.inj hf).symm)
  · refine g_iload_n Γ (pc := 14) 1 dX8_forNow_14 rfl rfl ?_
    refine g_aload_n Γ (pc := 15) 0 dX8_forNow_15 rfl rfl ?_
    refine g_iload_n Γ (pc := 16) 2 dX8_forNow_16 rfl rfl ?_
    refine g_iconst Γ (pc := 17) (v := 1) dX8_forNow_17 rfl ?_
    obtain ⟨v5, h1, hf⟩ := bn1_i hf
    refine g_callVI Γ (pc := 18) (as := [.int x2_3, .int 1]) (st := [.int x1_2]) dX8_forNow_18 (c_X8_of hM h1) (M_obj hM) rfl mi_X8_of mv_X8_of kM_X8_83 rfl ⟨Nat.le_of_ble_eq_true rfl, Nat.le_of_ble_eq_true rfl⟩ rfl (Nat.le_of_ble_eq_true rfl) ?_
    refine g_iload_n Γ (pc := 21) 2 dX8_forNow_21 rfl rfl ?_
    refine g_ishl Γ (pc := 22) dX8_forNow_22 ?_
    refine g_ior Γ (pc := 23) dX8_forNow_23 ?_
    refine g_nmi hf (fun e6 hf => ?_)
    refine g_istore_n Γ (pc := 24) (lv' := [(1, .int e6), (0, .ref (sq Y 0)), (2, .int x2_3)]) dX8_forNow_24 rfl (by decide) rfl ?_
    refine g_iinc Γ (pc := 25) (v := x2_3 + 1) (lv' := [(2, .int (x2_3 + 1)), (1, .int e6), (0, .ref (sq Y 0))]) 2 dX8_forNow_25 rfl rfl (by decide) rfl ?_
    refine g_goto Γ (pc := 28) (tgt := 4) dX8_forNow_28 rfl ?_
    refine g_sub Γ [2, 1, 0] rfl ?_
    exact kI1 (e6, x2_3 + 1) (Option.some.inj hf).symm
def f_X8_manyIn_K4_20 (y1_1 : Int32) : Option (Int32) :=
  some y1_1
def f_X8_manyIn_L4 (x1_2 : Int32) (x2_3 : Int32) : Option ((Int32 × Int32) ⊕ Int32) :=
  if x2_3 = 0 then
    some (.inr x1_2)
  else
    some (.inl (x1_2 + 1, (x2_3 &&& (x2_3 - 1))))
def f_X8_manyIn (a0 : Int32) : Option (Int32) :=
  bn1 (lpF (fun v => f_X8_manyIn_L4 v.1 v.2) 4000 (0, a0)) (fun x => f_X8_manyIn_K4_20 x)
set_option maxRecDepth 100000 in
set_option maxHeartbeats 4000000 in
theorem c_X8_manyIn {Y : SYS} {a0 : Int32} {μ : Mem} {x : Int32} (hf : f_X8_manyIn a0 = some x) : KC Y yX8_manyIn cX8_manyIn 3 (some .int) 0 [.int a0] μ (some (.int x)) μ := by
  refine KC.I RX8 [(0, .int a0)] (by decide) rfl (Nat.le_of_ble_eq_true rfl) rfl (fun G Γ ret => ?_)
  unfold f_X8_manyIn at hf
  refine g_iconst Γ (pc := 0) (v := 0) dX8_manyIn_0 rfl ?_
  refine g_istore_n Γ (pc := 1) (lv' := [(1, .int 0), (0, .int a0)]) dX8_manyIn_1 rfl (by decide) rfl ?_
  refine g_iload_n Γ (pc := 2) 1 dX8_manyIn_2 rfl rfl ?_
  refine g_istore_n Γ (pc := 3) (lv' := [(2, .int a0), (1, .int 0), (0, .int a0)]) dX8_manyIn_3 rfl (by decide) rfl ?_
  have K_4_20 : ∀ (y1_1 : Int32), f_X8_manyIn_K4_20 y1_1 = some x → G 20 [(1, .int y1_1)] [] μ := by
    intro y1_1 hf
    unfold f_X8_manyIn_K4_20 at hf
    refine g_iload_n Γ (pc := 20) 0 dX8_manyIn_20 rfl rfl ?_
    exact rIr ret dX8_manyIn_21 hf
  refine g_sub Γ [1, 0] rfl ?_
  refine lpF_s (P := fun (v : Int32 × Int32) => G 4 [(1, .int v.1), (2, .int v.2)] [] μ) hf (fun v z1 hf kI1 kX1 => ?_)
  obtain ⟨x1_2, x2_3⟩ := v
  replace hf : f_X8_manyIn_L4 x1_2 x2_3 = some z1 := hf
  show G 4 [(1, .int x1_2), (2, .int x2_3)] [] μ
  unfold f_X8_manyIn_L4 at hf
  refine g_iload_n Γ (pc := 4) 1 dX8_manyIn_4 rfl rfl ?_
  refine g_if_eq Γ (pc := 5) (tgt := 20) dX8_manyIn_5 rfl hf (fun hf => ?_) (fun hf => ?_)
  · refine g_sub Γ [0] rfl ?_
    exact K_4_20 x1_2 (kX1 x1_2 (Option.some.inj hf).symm)
  · refine g_iinc Γ (pc := 8) (v := x1_2 + 1) (lv' := [(1, .int (x1_2 + 1)), (2, .int x2_3)]) 0 dX8_manyIn_8 rfl rfl (by decide) rfl ?_
    refine g_iload_n Γ (pc := 11) 1 dX8_manyIn_11 rfl rfl ?_
    refine g_iload_n Γ (pc := 12) 1 dX8_manyIn_12 rfl rfl ?_
    refine g_iconst Γ (pc := 13) (v := 1) dX8_manyIn_13 rfl ?_
    refine g_isub Γ (pc := 14) dX8_manyIn_14 ?_
    refine g_iand Γ (pc := 15) dX8_manyIn_15 ?_
    refine g_istore_n Γ (pc := 16) (lv' := [(2, .int (x2_3 &&& (x2_3 - 1))), (1, .int (x1_2 + 1))]) dX8_manyIn_16 rfl (by decide) rfl ?_
    refine g_goto Γ (pc := 17) (tgt := 4) dX8_manyIn_17 rfl ?_
    refine g_sub Γ [1, 0] rfl ?_
    exact kI1 (x1_2 + 1, (x2_3 &&& (x2_3 - 1))) (Option.some.inj hf).symm
def f_X8_off (a0 : Int32) (a1 : Int32) : Option (Int32) :=
  if a1 ≤ a0 then
    some (a0 - a1)
  else
    some (a1 - a0)
set_option maxRecDepth 100000 in
set_option maxHeartbeats 4000000 in
theorem c_X8_off {Y : SYS} {a0 : Int32} {a1 : Int32} {μ : Mem} {x : Int32} (hf : f_X8_off a0 a1 = some x) : KC Y yX8_off cX8_off 2 (some .int) 0 [.int a0, .int a1] μ (some (.int x)) μ := by
  refine KC.I RX8 [(0, .int a0), (1, .int a1)] (by decide) rfl (Nat.le_of_ble_eq_true rfl) rfl (fun G Γ ret => ?_)
  unfold f_X8_off at hf
  refine g_iload_n Γ (pc := 0) 0 dX8_off_0 rfl rfl ?_
  refine g_iload_n Γ (pc := 1) 1 dX8_off_1 rfl rfl ?_
  refine g_icmp_ge Γ (pc := 2) (tgt := 11) dX8_off_2 rfl hf (fun hf => ?_) (fun hf => ?_)
  · refine g_iload_n Γ (pc := 11) 0 dX8_off_11 rfl rfl ?_
    refine g_iload_n Γ (pc := 12) 1 dX8_off_12 rfl rfl ?_
    refine g_isub Γ (pc := 13) dX8_off_13 ?_
    exact rIr ret dX8_off_14 hf
  · refine g_iload_n Γ (pc := 5) 1 dX8_off_5 rfl rfl ?_
    refine g_iload_n Γ (pc := 6) 0 dX8_off_6 rfl rfl ?_
    refine g_isub Γ (pc := 7) dX8_off_7 ?_
    refine g_goto Γ (pc := 8) (tgt := 14) dX8_off_8 rfl ?_
    exact rIr ret dX8_off_14 hf
def f_X8_offBy (a0 : Int32) (a1 : Int32) (μ : Mem) : Option (Int32) :=
  bn1 (f_X8_of a0 4 μ) fun v1 =>
  bn1 (f_X8_manyIn v1) fun v2 =>
  bn1 (f_X8_of a0 4 μ) fun v3 =>
  bn1 (f_X8_manyIn (v3 &&& a1)) fun v4 =>
  bn1 (f_X8_off (2 * v4) v2) fun v5 =>
  some v5
set_option maxRecDepth 100000 in
set_option maxHeartbeats 4000000 in
theorem c_X8_offBy {Y : SYS} (hM : IsM Y) {a0 : Int32} {a1 : Int32} {μ : Mem} {x : Int32} (hf : f_X8_offBy a0 a1 μ = some x) : KC Y yX8_offBy cX8_offBy 4 (some .int) 1 [.ref (sq Y 0), .int a0, .int a1] μ (some (.int x)) μ := by
  refine KC.I RX8 [(0, .ref (sq Y 0)), (1, .int a0), (2, .int a1)] (by decide) rfl (Nat.le_of_ble_eq_true rfl) rfl (fun G Γ ret => ?_)
  unfold f_X8_offBy at hf
  refine g_aload_n Γ (pc := 0) 0 dX8_offBy_0 rfl rfl ?_
  refine g_iload_n Γ (pc := 1) 1 dX8_offBy_1 rfl rfl ?_
  refine g_iconst Γ (pc := 2) (v := 4) dX8_offBy_2 rfl ?_
  obtain ⟨v1, h1, hf⟩ := bn1_i hf
  refine g_callVI Γ (pc := 3) (as := [.int a0, .int 4]) (st := []) dX8_offBy_3 (c_X8_of hM h1) (M_obj hM) rfl mi_X8_of mv_X8_of kM_X8_83 rfl ⟨Nat.le_of_ble_eq_true rfl, Nat.le_of_ble_eq_true rfl⟩ rfl (Nat.le_of_ble_eq_true rfl) ?_
  obtain ⟨v2, h1, hf⟩ := bn1_i hf
  refine g_callSI Γ (pc := 6) (as := [.int v1]) (st := []) dX8_offBy_6 (c_X8_manyIn h1) mi_X8_manyIn ms_X8_manyIn kM_X8_87 rfl ⟨Nat.le_of_ble_eq_true rfl, Nat.le_of_ble_eq_true rfl⟩ rfl (Nat.le_of_ble_eq_true rfl) ?_
  refine g_istore_n Γ (pc := 9) (lv' := [(3, .int v2), (0, .ref (sq Y 0)), (1, .int a0), (2, .int a1)]) dX8_offBy_9 rfl (by decide) rfl ?_
  refine g_iconst Γ (pc := 10) (v := 2) dX8_offBy_10 rfl ?_
  refine g_aload_n Γ (pc := 11) 1 dX8_offBy_11 rfl rfl ?_
  refine g_iload_n Γ (pc := 12) 2 dX8_offBy_12 rfl rfl ?_
  refine g_iconst Γ (pc := 13) (v := 4) dX8_offBy_13 rfl ?_
  obtain ⟨v3, h1, hf⟩ := bn1_i hf
  refine g_callVI Γ (pc := 14) (as := [.int a0, .int 4]) (st := [.int 2]) dX8_offBy_14 (c_X8_of hM h1) (M_obj hM) rfl mi_X8_of mv_X8_of kM_X8_83 rfl ⟨Nat.le_of_ble_eq_true rfl, Nat.le_of_ble_eq_true rfl⟩ rfl (Nat.le_of_ble_eq_true rfl) ?_
  refine g_iload_n Γ (pc := 17) 3 dX8_offBy_17 rfl rfl ?_
  refine g_iand Γ (pc := 18) dX8_offBy_18 ?_
  obtain ⟨v4, h1, hf⟩ := bn1_i hf
  refine g_callSI Γ (pc := 19) (as := [.int (v3 &&& a1)]) (st := [.int 2]) dX8_offBy_19 (c_X8_manyIn h1) mi_X8_manyIn ms_X8_manyIn kM_X8_87 rfl ⟨Nat.le_of_ble_eq_true rfl, Nat.le_of_ble_eq_true rfl⟩ rfl (Nat.le_of_ble_eq_true rfl) ?_
  refine g_imul Γ (pc := 22) dX8_offBy_22 ?_
  refine g_iload_n Γ (pc := 23) 0 dX8_offBy_23 rfl rfl ?_
  obtain ⟨v5, h1, hf⟩ := bn1_i hf
  refine g_callSI Γ (pc := 24) (as := [.int (2 * v4), .int v2]) (st := []) dX8_offBy_24 (c_X8_off h1) mi_X8_off ms_X8_off kM_X8_91 rfl ⟨Nat.le_of_ble_eq_true rfl, Nat.le_of_ble_eq_true rfl⟩ rfl (Nat.le_of_ble_eq_true rfl) ?_
  exact rIr ret dX8_offBy_27 hf
def f_X8_offOf (a0 : Int32) (μ : Mem) : Option (Int32) :=
  bn1 (f_X8_forNow μ) fun v1 =>
  bn1 (f_X8_offBy a0 v1 μ) fun v2 =>
  some v2
set_option maxRecDepth 100000 in
set_option maxHeartbeats 4000000 in
theorem c_X8_offOf {Y : SYS} (hM : IsM Y) {a0 : Int32} {μ : Mem} {x : Int32} (hf : f_X8_offOf a0 μ = some x) : KC Y yX8_offOf cX8_offOf 2 (some .int) 2 [.ref (sq Y 0), .int a0] μ (some (.int x)) μ := by
  refine KC.I RX8 [(0, .ref (sq Y 0)), (1, .int a0)] (by decide) rfl (Nat.le_of_ble_eq_true rfl) rfl (fun G Γ ret => ?_)
  unfold f_X8_offOf at hf
  refine g_aload_n Γ (pc := 0) 0 dX8_offOf_0 rfl rfl ?_
  refine g_iload_n Γ (pc := 1) 1 dX8_offOf_1 rfl rfl ?_
  refine g_aload_n Γ (pc := 2) 0 dX8_offOf_2 rfl rfl ?_
  obtain ⟨v1, h1, hf⟩ := bn1_i hf
  refine g_callVI Γ (pc := 3) (as := []) (st := [.int a0, .ref (sq Y 0)]) dX8_offOf_3 (c_X8_forNow hM h1) (M_obj hM) rfl mi_X8_forNow mv_X8_forNow kM_X8_94 rfl ⟨Nat.le_of_ble_eq_true rfl, Nat.le_of_ble_eq_true rfl⟩ rfl (Nat.le_of_ble_eq_true rfl) ?_
  obtain ⟨v2, h1, hf⟩ := bn1_i hf
  refine g_callVI Γ (pc := 6) (as := [.int a0, .int v1]) (st := []) dX8_offOf_6 (c_X8_offBy hM h1) (M_obj hM) rfl mi_X8_offBy mv_X8_offBy kM_X8_98 rfl ⟨Nat.le_of_ble_eq_true rfl, Nat.le_of_ble_eq_true rfl⟩ rfl (Nat.le_of_ble_eq_true rfl) ?_
  exact rIr ret dX8_offOf_9 hf
def f_X8_textAt (a0 : Int32) (μ : Mem) : Option (Int32) :=
  some (59 + (200 * a0))
set_option maxRecDepth 100000 in
set_option maxHeartbeats 4000000 in
theorem c_X8_textAt {Y : SYS} (hM : IsM Y) {a0 : Int32} {μ : Mem} {x : Int32} (hf : f_X8_textAt a0 μ = some x) : KC Y yX8_textAt cX8_textAt 2 (some .int) 0 [.ref (sq Y 0), .int a0] μ (some (.int x)) μ := by
  refine KC.I RX8 [(0, .ref (sq Y 0)), (1, .int a0)] (by decide) rfl (Nat.le_of_ble_eq_true rfl) rfl (fun G Γ ret => ?_)
  unfold f_X8_textAt at hf
  refine g_bipush Γ (pc := 0) (v := 59) dX8_textAt_0 rfl ?_
  refine g_sipush Γ (pc := 2) (v := 200) dX8_textAt_2 rfl ?_
  refine g_iload_n Γ (pc := 5) 1 dX8_textAt_5 rfl rfl ?_
  refine g_imul Γ (pc := 6) dX8_textAt_6 ?_
  refine g_iadd Γ (pc := 7) dX8_textAt_7 ?_
  exact rIr ret dX8_textAt_8 hf
def f_X8_counts_K4_40 (y2_1 : Int32) : Option (Int32) :=
  some y2_1
def f_X8_counts_J33 (x3_3 : Int32) (s7 : Int32) : Option ((Int32 × Int32) ⊕ Int32) :=
  some (.inl (s7, x3_3 + 1))
def f_X8_counts_L4 (a0 : Int32) (μ : Mem) (x2_2 : Int32) (x3_3 : Int32) : Option ((Int32 × Int32) ⊕ Int32) :=
  bn1 (ldM (μ 1) 3059 1) fun v4 =>
  if v4 ≤ x3_3 then
    some (.inr x2_2)
  else
    bn1 (f_X8_textAt x3_3 μ) fun v5 =>
    bn1 (ldM (μ 1) 3059 v5) fun v6 =>
    if v6 = a0 then
      f_X8_counts_J33 x3_3 x3_3
    else
      f_X8_counts_J33 x3_3 x2_2
def f_X8_counts (a0 : Int32) (μ : Mem) : Option (Int32) :=
  bn1 (lpF (fun v => f_X8_counts_L4 a0 μ v.1 v.2) 4000 ((-1), 0)) (fun x => f_X8_counts_K4_40 x)
set_option maxRecDepth 100000 in
set_option maxHeartbeats 4000000 in
theorem c_X8_counts {Y : SYS} (hM : IsM Y) {a0 : Int32} {μ : Mem} {x : Int32} (hf : f_X8_counts a0 μ = some x) : KC Y yX8_counts cX8_counts 4 (some .int) 1 [.ref (sq Y 0), .int a0] μ (some (.int x)) μ := by
  refine KC.I RX8 [(0, .ref (sq Y 0)), (1, .int a0)] (by decide) rfl (Nat.le_of_ble_eq_true rfl) rfl (fun G Γ ret => ?_)
  unfold f_X8_counts at hf
  refine g_iconst Γ (pc := 0) (v := (-1)) dX8_counts_0 rfl ?_
  refine g_istore_n Γ (pc := 1) (lv' := [(2, .int (-1)), (0, .ref (sq Y 0)), (1, .int a0)]) dX8_counts_1 rfl (by decide) rfl ?_
  refine g_iconst Γ (pc := 2) (v := 0) dX8_counts_2 rfl ?_
  refine g_istore_n Γ (pc := 3) (lv' := [(3, .int 0), (2, .int (-1)), (0, .ref (sq Y 0)), (1, .int a0)]) dX8_counts_3 rfl (by decide) rfl ?_
  have K_4_40 : ∀ (y2_1 : Int32), f_X8_counts_K4_40 y2_1 = some x → G 40 [(2, .int y2_1)] [] μ := by
    intro y2_1 hf
    unfold f_X8_counts_K4_40 at hf
    refine g_iload_n Γ (pc := 40) 0 dX8_counts_40 rfl rfl ?_
    exact rIr ret dX8_counts_41 hf
  refine g_sub Γ [2, 3, 1, 0] rfl ?_
  refine lpF_s (P := fun (v : Int32 × Int32) => G 4 [(0, .ref (sq Y 0)), (1, .int a0), (2, .int v.1), (3, .int v.2)] [] μ) hf (fun v z1 hf kI1 kX1 => ?_)
  obtain ⟨x2_2, x3_3⟩ := v
  replace hf : f_X8_counts_L4 a0 μ x2_2 x3_3 = some z1 := hf
  show G 4 [(0, .ref (sq Y 0)), (1, .int a0), (2, .int x2_2), (3, .int x3_3)] [] μ
  unfold f_X8_counts_L4 at hf
  refine g_iload_n Γ (pc := 4) 3 dX8_counts_4 rfl rfl ?_
  refine g_aload_n Γ (pc := 5) 0 dX8_counts_5 rfl rfl ?_
  refine g_get Γ (pc := 6) (v := .ref (sq Y 1)) dX8_counts_6 (M_obj hM) fr_X8_7 rfl ?_
  refine g_iconst Γ (pc := 9) (v := 1) dX8_counts_9 rfl ?_
  refine g_iald Γ (pc := 10) dX8_counts_10 (M_1 hM) hf (fun v4 hf => ?_)
  refine g_icmp_ge Γ (pc := 11) (tgt := 40) dX8_counts_11 rfl hf (fun hf => ?_) (fun hf => ?_)
  · refine g_sub Γ [2] rfl ?_
    exact K_4_40 x2_2 (kX1 x2_2 (Option.some.inj hf).symm)
  · refine g_aload_n Γ (pc := 14) 0 dX8_counts_14 rfl rfl ?_
    refine g_get Γ (pc := 15) (v := .ref (sq Y 1)) dX8_counts_15 (M_obj hM) fr_X8_7 rfl ?_
    refine g_aload_n Γ (pc := 18) 0 dX8_counts_18 rfl rfl ?_
    refine g_iload_n Γ (pc := 19) 3 dX8_counts_19 rfl rfl ?_
    obtain ⟨v5, h1, hf⟩ := bn1_i hf
    refine g_callVI Γ (pc := 20) (as := [.int x3_3]) (st := [.ref (sq Y 1)]) dX8_counts_20 (c_X8_textAt hM h1) (M_obj hM) rfl mi_X8_textAt mv_X8_textAt kM_X8_299 rfl ⟨Nat.le_of_ble_eq_true rfl, Nat.le_of_ble_eq_true rfl⟩ rfl (Nat.le_of_ble_eq_true rfl) ?_
    refine g_iald Γ (pc := 23) dX8_counts_23 (M_1 hM) hf (fun v6 hf => ?_)
    refine g_iload_n Γ (pc := 24) 1 dX8_counts_24 rfl rfl ?_
    have J_33 : ∀ (s7 : Int32), f_X8_counts_J33 x3_3 s7 = some z1 → G 33 [(0, .ref (sq Y 0)), (1, .int a0), (3, .int x3_3)] [.int s7] μ := by
      intro s7 hf
      unfold f_X8_counts_J33 at hf
      refine g_istore_n Γ (pc := 33) (lv' := [(2, .int s7), (0, .ref (sq Y 0)), (1, .int a0), (3, .int x3_3)]) dX8_counts_33 rfl (by decide) rfl ?_
      refine g_iinc Γ (pc := 34) (v := x3_3 + 1) (lv' := [(3, .int (x3_3 + 1)), (2, .int s7), (0, .ref (sq Y 0)), (1, .int a0)]) 3 dX8_counts_34 rfl rfl (by decide) rfl ?_
      refine g_goto Γ (pc := 37) (tgt := 4) dX8_counts_37 rfl ?_
      refine g_sub Γ [2, 3, 1, 0] rfl ?_
      exact kI1 (s7, x3_3 + 1) (Option.some.inj hf).symm
    refine g_icmp_ne Γ (pc := 25) (tgt := 32) dX8_counts_25 rfl hf (fun hf => ?_) (fun hf => ?_)
    · refine g_iload_n Γ (pc := 32) 2 dX8_counts_32 rfl rfl ?_
      refine g_sub Γ [0, 1, 3] rfl ?_
      exact J_33 x2_2 hf
    · refine g_iload_n Γ (pc := 28) 3 dX8_counts_28 rfl rfl ?_
      refine g_goto Γ (pc := 29) (tgt := 33) dX8_counts_29 rfl ?_
      refine g_sub Γ [0, 1, 3] rfl ?_
      exact J_33 x3_3 hf
def f_X8_joined (a0 : Int32) (a1 : Int32) (a2 : Int32) : Option (Int32) :=
  if a0 = 38 then
    if a1 = 0 then
      some 0
    else
      if a2 = 0 then
        some 0
      else
        some 1
  else
    if a0 = 39 then
      if a1 = 0 then
        if a2 = 0 then
          some 0
        else
          some 1
      else
        some 1
    else
      if a0 = 40 then
        if a1 = 0 then
          if a2 = 0 then
            some 0
          else
            some 1
        else
          some 1
      else
        if a0 = 41 then
          if a1 = 0 then
            if a2 = 0 then
              some 0
            else
              some 1
          else
            some 1
        else
          if a0 = 42 then
            some (a1 * a2)
          else
            if a0 = 43 then
              some (a1 + a2)
            else
              if a0 = 44 then
                if a1 = 0 then
                  if a2 = 0 then
                    some 0
                  else
                    some 1
                else
                  some 1
              else
                if a0 = 45 then
                  some (a1 - a2)
                else
                  if a0 = 46 then
                    if a1 = 0 then
                      if a2 = 0 then
                        some 0
                      else
                        some 1
                    else
                      some 1
                  else
                    if a0 = 47 then
                      if a2 = 0 then
                        some 0
                      else
                        if a2 = (-1) then
                          some (-a1)
                        else
                          bn1 (dvM a1 a2) fun v1 =>
                          some v1
                    else
                      if a0 = 48 then
                        if a1 = 0 then
                          if a2 = 0 then
                            some 0
                          else
                            some 1
                        else
                          some 1
                      else
                        if a0 = 49 then
                          if a1 = 0 then
                            if a2 = 0 then
                              some 0
                            else
                              some 1
                          else
                            some 1
                        else
                          if a0 = 50 then
                            if a1 = 0 then
                              if a2 = 0 then
                                some 0
                              else
                                some 1
                            else
                              some 1
                          else
                            if a0 = 51 then
                              if a1 = 0 then
                                if a2 = 0 then
                                  some 0
                                else
                                  some 1
                              else
                                some 1
                            else
                              if a0 = 52 then
                                if a1 = 0 then
                                  if a2 = 0 then
                                    some 0
                                  else
                                    some 1
                                else
                                  some 1
                              else
                                if a0 = 53 then
                                  if a1 = 0 then
                                    if a2 = 0 then
                                      some 0
                                    else
                                      some 1
                                  else
                                    some 1
                                else
                                  if a0 = 54 then
                                    if a1 = 0 then
                                      if a2 = 0 then
                                        some 0
                                      else
                                        some 1
                                    else
                                      some 1
                                  else
                                    if a0 = 55 then
                                      if a1 = 0 then
                                        if a2 = 0 then
                                          some 0
                                        else
                                          some 1
                                      else
                                        some 1
                                    else
                                      if a0 = 56 then
                                        if a1 = 0 then
                                          if a2 = 0 then
                                            some 0
                                          else
                                            some 1
                                        else
                                          some 1
                                      else
                                        if a0 = 57 then
                                          if a1 = 0 then
                                            if a2 = 0 then
                                              some 0
                                            else
                                              some 1
                                          else
                                            some 1
                                        else
                                          if a0 = 58 then
                                            if a1 = 0 then
                                              if a2 = 0 then
                                                some 0
                                              else
                                                some 1
                                            else
                                              some 1
                                          else
                                            if a0 = 59 then
                                              if a1 = 0 then
                                                if a2 = 0 then
                                                  some 0
                                                else
                                                  some 1
                                              else
                                                some 1
                                            else
                                              if a0 = 60 then
                                                if a2 ≤ a1 then
                                                  some 0
                                                else
                                                  some 1
                                              else
                                                if a0 = 61 then
                                                  if a1 = a2 then
                                                    some 1
                                                  else
                                                    some 0
                                                else
                                                  if a0 = 62 then
                                                    if a1 ≤ a2 then
                                                      some 0
                                                    else
                                                      some 1
                                                  else
                                                    if a1 = 0 then
                                                      if a2 = 0 then
                                                        some 0
                                                      else
                                                        some 1
                                                    else
                                                      some 1
set_option maxRecDepth 100000 in
set_option maxHeartbeats 4000000 in
theorem c_X8_joined {Y : SYS} {a0 : Int32} {a1 : Int32} {a2 : Int32} {μ : Mem} {x : Int32} (hf : f_X8_joined a0 a1 a2 = some x) : KC Y yX8_joined cX8_joined 3 (some .int) 0 [.int a0, .int a1, .int a2] μ (some (.int x)) μ := by
  refine KC.I RX8 [(0, .int a0), (1, .int a1), (2, .int a2)] (by decide) rfl (Nat.le_of_ble_eq_true rfl) rfl (fun G Γ ret => ?_)
  unfold f_X8_joined at hf
  refine g_iload_n Γ (pc := 0) 0 dX8_joined_0 rfl rfl ?_
  by_cases h1_0 : a0 = 38
  · replace hf := ite_t h1_0 hf
    refine g_tin Γ (pc := 1) (tgt := 183) 38 dX8_joined_1 h1_0 (by decide) (by decide) rfl rfl ?_
    refine g_iload_n Γ (pc := 183) 1 dX8_joined_183 rfl rfl ?_
    refine g_if_eq Γ (pc := 184) (tgt := 195) dX8_joined_184 rfl hf (fun hf => ?_) (fun hf => ?_)
    · refine g_iconst Γ (pc := 195) (v := 0) dX8_joined_195 rfl ?_
      exact rIr ret dX8_joined_196 hf
    · refine g_iload_n Γ (pc := 187) 2 dX8_joined_187 rfl rfl ?_
      refine g_if_eq Γ (pc := 188) (tgt := 195) dX8_joined_188 rfl hf (fun hf => ?_) (fun hf => ?_)
      · refine g_iconst Γ (pc := 195) (v := 0) dX8_joined_195 rfl ?_
        exact rIr ret dX8_joined_196 hf
      · refine g_iconst Γ (pc := 191) (v := 1) dX8_joined_191 rfl ?_
        refine g_goto Γ (pc := 192) (tgt := 196) dX8_joined_192 rfl ?_
        exact rIr ret dX8_joined_196 hf
  · replace hf := ite_f h1_0 hf
    by_cases h1_1 : a0 = 39
    · replace hf := ite_t h1_1 hf
      refine g_tin Γ (pc := 1) (tgt := 197) 39 dX8_joined_1 h1_1 (by decide) (by decide) rfl rfl ?_
      refine g_iload_n Γ (pc := 197) 1 dX8_joined_197 rfl rfl ?_
      refine g_if_ne Γ (pc := 198) (tgt := 205) dX8_joined_198 rfl hf (fun hf => ?_) (fun hf => ?_)
      · refine g_iconst Γ (pc := 205) (v := 1) dX8_joined_205 rfl ?_
        refine g_goto Γ (pc := 206) (tgt := 210) dX8_joined_206 rfl ?_
        exact rIr ret dX8_joined_210 hf
      · refine g_iload_n Γ (pc := 201) 2 dX8_joined_201 rfl rfl ?_
        refine g_if_eq Γ (pc := 202) (tgt := 209) dX8_joined_202 rfl hf (fun hf => ?_) (fun hf => ?_)
        · refine g_iconst Γ (pc := 209) (v := 0) dX8_joined_209 rfl ?_
          exact rIr ret dX8_joined_210 hf
        · refine g_iconst Γ (pc := 205) (v := 1) dX8_joined_205 rfl ?_
          refine g_goto Γ (pc := 206) (tgt := 210) dX8_joined_206 rfl ?_
          exact rIr ret dX8_joined_210 hf
    · replace hf := ite_f h1_1 hf
      by_cases h1_2 : a0 = 40
      · replace hf := ite_t h1_2 hf
        refine g_tin Γ (pc := 1) (tgt := 197) 40 dX8_joined_1 h1_2 (by decide) (by decide) rfl rfl ?_
        refine g_iload_n Γ (pc := 197) 1 dX8_joined_197 rfl rfl ?_
        refine g_if_ne Γ (pc := 198) (tgt := 205) dX8_joined_198 rfl hf (fun hf => ?_) (fun hf => ?_)
        · refine g_iconst Γ (pc := 205) (v := 1) dX8_joined_205 rfl ?_
          refine g_goto Γ (pc := 206) (tgt := 210) dX8_joined_206 rfl ?_
          exact rIr ret dX8_joined_210 hf
        · refine g_iload_n Γ (pc := 201) 2 dX8_joined_201 rfl rfl ?_
          refine g_if_eq Γ (pc := 202) (tgt := 209) dX8_joined_202 rfl hf (fun hf => ?_) (fun hf => ?_)
          · refine g_iconst Γ (pc := 209) (v := 0) dX8_joined_209 rfl ?_
            exact rIr ret dX8_joined_210 hf
          · refine g_iconst Γ (pc := 205) (v := 1) dX8_joined_205 rfl ?_
            refine g_goto Γ (pc := 206) (tgt := 210) dX8_joined_206 rfl ?_
            exact rIr ret dX8_joined_210 hf
      · replace hf := ite_f h1_2 hf
        by_cases h1_3 : a0 = 41
        · replace hf := ite_t h1_3 hf
          refine g_tin Γ (pc := 1) (tgt := 197) 41 dX8_joined_1 h1_3 (by decide) (by decide) rfl rfl ?_
          refine g_iload_n Γ (pc := 197) 1 dX8_joined_197 rfl rfl ?_
          refine g_if_ne Γ (pc := 198) (tgt := 205) dX8_joined_198 rfl hf (fun hf => ?_) (fun hf => ?_)
          · refine g_iconst Γ (pc := 205) (v := 1) dX8_joined_205 rfl ?_
            refine g_goto Γ (pc := 206) (tgt := 210) dX8_joined_206 rfl ?_
            exact rIr ret dX8_joined_210 hf
          · refine g_iload_n Γ (pc := 201) 2 dX8_joined_201 rfl rfl ?_
            refine g_if_eq Γ (pc := 202) (tgt := 209) dX8_joined_202 rfl hf (fun hf => ?_) (fun hf => ?_)
            · refine g_iconst Γ (pc := 209) (v := 0) dX8_joined_209 rfl ?_
              exact rIr ret dX8_joined_210 hf
            · refine g_iconst Γ (pc := 205) (v := 1) dX8_joined_205 rfl ?_
              refine g_goto Γ (pc := 206) (tgt := 210) dX8_joined_206 rfl ?_
              exact rIr ret dX8_joined_210 hf
        · replace hf := ite_f h1_3 hf
          by_cases h1_4 : a0 = 42
          · replace hf := ite_t h1_4 hf
            refine g_tin Γ (pc := 1) (tgt := 124) 42 dX8_joined_1 h1_4 (by decide) (by decide) rfl rfl ?_
            refine g_iload_n Γ (pc := 124) 1 dX8_joined_124 rfl rfl ?_
            refine g_iload_n Γ (pc := 125) 2 dX8_joined_125 rfl rfl ?_
            refine g_imul Γ (pc := 126) dX8_joined_126 ?_
            exact rIr ret dX8_joined_127 hf
          · replace hf := ite_f h1_4 hf
            by_cases h1_5 : a0 = 43
            · replace hf := ite_t h1_5 hf
              refine g_tin Γ (pc := 1) (tgt := 116) 43 dX8_joined_1 h1_5 (by decide) (by decide) rfl rfl ?_
              refine g_iload_n Γ (pc := 116) 1 dX8_joined_116 rfl rfl ?_
              refine g_iload_n Γ (pc := 117) 2 dX8_joined_117 rfl rfl ?_
              refine g_iadd Γ (pc := 118) dX8_joined_118 ?_
              exact rIr ret dX8_joined_119 hf
            · replace hf := ite_f h1_5 hf
              by_cases h1_6 : a0 = 44
              · replace hf := ite_t h1_6 hf
                refine g_tin Γ (pc := 1) (tgt := 197) 44 dX8_joined_1 h1_6 (by decide) (by decide) rfl rfl ?_
                refine g_iload_n Γ (pc := 197) 1 dX8_joined_197 rfl rfl ?_
                refine g_if_ne Γ (pc := 198) (tgt := 205) dX8_joined_198 rfl hf (fun hf => ?_) (fun hf => ?_)
                · refine g_iconst Γ (pc := 205) (v := 1) dX8_joined_205 rfl ?_
                  refine g_goto Γ (pc := 206) (tgt := 210) dX8_joined_206 rfl ?_
                  exact rIr ret dX8_joined_210 hf
                · refine g_iload_n Γ (pc := 201) 2 dX8_joined_201 rfl rfl ?_
                  refine g_if_eq Γ (pc := 202) (tgt := 209) dX8_joined_202 rfl hf (fun hf => ?_) (fun hf => ?_)
                  · refine g_iconst Γ (pc := 209) (v := 0) dX8_joined_209 rfl ?_
                    exact rIr ret dX8_joined_210 hf
                  · refine g_iconst Γ (pc := 205) (v := 1) dX8_joined_205 rfl ?_
                    refine g_goto Γ (pc := 206) (tgt := 210) dX8_joined_206 rfl ?_
                    exact rIr ret dX8_joined_210 hf
              · replace hf := ite_f h1_6 hf
                by_cases h1_7 : a0 = 45
                · replace hf := ite_t h1_7 hf
                  refine g_tin Γ (pc := 1) (tgt := 120) 45 dX8_joined_1 h1_7 (by decide) (by decide) rfl rfl ?_
                  refine g_iload_n Γ (pc := 120) 1 dX8_joined_120 rfl rfl ?_
                  refine g_iload_n Γ (pc := 121) 2 dX8_joined_121 rfl rfl ?_
                  refine g_isub Γ (pc := 122) dX8_joined_122 ?_
                  exact rIr ret dX8_joined_123 hf
                · replace hf := ite_f h1_7 hf
                  by_cases h1_8 : a0 = 46
                  · replace hf := ite_t h1_8 hf
                    refine g_tin Γ (pc := 1) (tgt := 197) 46 dX8_joined_1 h1_8 (by decide) (by decide) rfl rfl ?_
                    refine g_iload_n Γ (pc := 197) 1 dX8_joined_197 rfl rfl ?_
                    refine g_if_ne Γ (pc := 198) (tgt := 205) dX8_joined_198 rfl hf (fun hf => ?_) (fun hf => ?_)
                    · refine g_iconst Γ (pc := 205) (v := 1) dX8_joined_205 rfl ?_
                      refine g_goto Γ (pc := 206) (tgt := 210) dX8_joined_206 rfl ?_
                      exact rIr ret dX8_joined_210 hf
                    · refine g_iload_n Γ (pc := 201) 2 dX8_joined_201 rfl rfl ?_
                      refine g_if_eq Γ (pc := 202) (tgt := 209) dX8_joined_202 rfl hf (fun hf => ?_) (fun hf => ?_)
                      · refine g_iconst Γ (pc := 209) (v := 0) dX8_joined_209 rfl ?_
                        exact rIr ret dX8_joined_210 hf
                      · refine g_iconst Γ (pc := 205) (v := 1) dX8_joined_205 rfl ?_
                        refine g_goto Γ (pc := 206) (tgt := 210) dX8_joined_206 rfl ?_
                        exact rIr ret dX8_joined_210 hf
                  · replace hf := ite_f h1_8 hf
                    by_cases h1_9 : a0 = 47
                    · replace hf := ite_t h1_9 hf
                      refine g_tin Γ (pc := 1) (tgt := 128) 47 dX8_joined_1 h1_9 (by decide) (by decide) rfl rfl ?_
                      refine g_iload_n Γ (pc := 128) 2 dX8_joined_128 rfl rfl ?_
                      refine g_if_ne Γ (pc := 129) (tgt := 136) dX8_joined_129 rfl hf (fun hf => ?_) (fun hf => ?_)
                      · refine g_iload_n Γ (pc := 136) 2 dX8_joined_136 rfl rfl ?_
                        refine g_iconst Γ (pc := 137) (v := (-1)) dX8_joined_137 rfl ?_
                        refine g_icmp_ne Γ (pc := 138) (tgt := 146) dX8_joined_138 rfl hf (fun hf => ?_) (fun hf => ?_)
                        · refine g_iload_n Γ (pc := 146) 1 dX8_joined_146 rfl rfl ?_
                          refine g_iload_n Γ (pc := 147) 2 dX8_joined_147 rfl rfl ?_
                          refine g_idiv Γ (pc := 148) dX8_joined_148 hf (fun v1 hf => ?_)
                          exact rIr ret dX8_joined_149 hf
                        · refine g_iload_n Γ (pc := 141) 1 dX8_joined_141 rfl rfl ?_
                          refine g_ineg Γ (pc := 142) dX8_joined_142 ?_
                          refine g_goto Γ (pc := 143) (tgt := 149) dX8_joined_143 rfl ?_
                          exact rIr ret dX8_joined_149 hf
                      · refine g_iconst Γ (pc := 132) (v := 0) dX8_joined_132 rfl ?_
                        refine g_goto Γ (pc := 133) (tgt := 149) dX8_joined_133 rfl ?_
                        exact rIr ret dX8_joined_149 hf
                    · replace hf := ite_f h1_9 hf
                      by_cases h1_10 : a0 = 48
                      · replace hf := ite_t h1_10 hf
                        refine g_tin Γ (pc := 1) (tgt := 197) 48 dX8_joined_1 h1_10 (by decide) (by decide) rfl rfl ?_
                        refine g_iload_n Γ (pc := 197) 1 dX8_joined_197 rfl rfl ?_
                        refine g_if_ne Γ (pc := 198) (tgt := 205) dX8_joined_198 rfl hf (fun hf => ?_) (fun hf => ?_)
                        · refine g_iconst Γ (pc := 205) (v := 1) dX8_joined_205 rfl ?_
                          refine g_goto Γ (pc := 206) (tgt := 210) dX8_joined_206 rfl ?_
                          exact rIr ret dX8_joined_210 hf
                        · refine g_iload_n Γ (pc := 201) 2 dX8_joined_201 rfl rfl ?_
                          refine g_if_eq Γ (pc := 202) (tgt := 209) dX8_joined_202 rfl hf (fun hf => ?_) (fun hf => ?_)
                          · refine g_iconst Γ (pc := 209) (v := 0) dX8_joined_209 rfl ?_
                            exact rIr ret dX8_joined_210 hf
                          · refine g_iconst Γ (pc := 205) (v := 1) dX8_joined_205 rfl ?_
                            refine g_goto Γ (pc := 206) (tgt := 210) dX8_joined_206 rfl ?_
                            exact rIr ret dX8_joined_210 hf
                      · replace hf := ite_f h1_10 hf
                        by_cases h1_11 : a0 = 49
                        · replace hf := ite_t h1_11 hf
                          refine g_tin Γ (pc := 1) (tgt := 197) 49 dX8_joined_1 h1_11 (by decide) (by decide) rfl rfl ?_
                          refine g_iload_n Γ (pc := 197) 1 dX8_joined_197 rfl rfl ?_
                          refine g_if_ne Γ (pc := 198) (tgt := 205) dX8_joined_198 rfl hf (fun hf => ?_) (fun hf => ?_)
                          · refine g_iconst Γ (pc := 205) (v := 1) dX8_joined_205 rfl ?_
                            refine g_goto Γ (pc := 206) (tgt := 210) dX8_joined_206 rfl ?_
                            exact rIr ret dX8_joined_210 hf
                          · refine g_iload_n Γ (pc := 201) 2 dX8_joined_201 rfl rfl ?_
                            refine g_if_eq Γ (pc := 202) (tgt := 209) dX8_joined_202 rfl hf (fun hf => ?_) (fun hf => ?_)
                            · refine g_iconst Γ (pc := 209) (v := 0) dX8_joined_209 rfl ?_
                              exact rIr ret dX8_joined_210 hf
                            · refine g_iconst Γ (pc := 205) (v := 1) dX8_joined_205 rfl ?_
                              refine g_goto Γ (pc := 206) (tgt := 210) dX8_joined_206 rfl ?_
                              exact rIr ret dX8_joined_210 hf
                        · replace hf := ite_f h1_11 hf
                          by_cases h1_12 : a0 = 50
                          · replace hf := ite_t h1_12 hf
                            refine g_tin Γ (pc := 1) (tgt := 197) 50 dX8_joined_1 h1_12 (by decide) (by decide) rfl rfl ?_
                            refine g_iload_n Γ (pc := 197) 1 dX8_joined_197 rfl rfl ?_
                            refine g_if_ne Γ (pc := 198) (tgt := 205) dX8_joined_198 rfl hf (fun hf => ?_) (fun hf => ?_)
                            · refine g_iconst Γ (pc := 205) (v := 1) dX8_joined_205 rfl ?_
                              refine g_goto Γ (pc := 206) (tgt := 210) dX8_joined_206 rfl ?_
                              exact rIr ret dX8_joined_210 hf
                            · refine g_iload_n Γ (pc := 201) 2 dX8_joined_201 rfl rfl ?_
                              refine g_if_eq Γ (pc := 202) (tgt := 209) dX8_joined_202 rfl hf (fun hf => ?_) (fun hf => ?_)
                              · refine g_iconst Γ (pc := 209) (v := 0) dX8_joined_209 rfl ?_
                                exact rIr ret dX8_joined_210 hf
                              · refine g_iconst Γ (pc := 205) (v := 1) dX8_joined_205 rfl ?_
                                refine g_goto Γ (pc := 206) (tgt := 210) dX8_joined_206 rfl ?_
                                exact rIr ret dX8_joined_210 hf
                          · replace hf := ite_f h1_12 hf
                            by_cases h1_13 : a0 = 51
                            · replace hf := ite_t h1_13 hf
                              refine g_tin Γ (pc := 1) (tgt := 197) 51 dX8_joined_1 h1_13 (by decide) (by decide) rfl rfl ?_
                              refine g_iload_n Γ (pc := 197) 1 dX8_joined_197 rfl rfl ?_
                              refine g_if_ne Γ (pc := 198) (tgt := 205) dX8_joined_198 rfl hf (fun hf => ?_) (fun hf => ?_)
                              · refine g_iconst Γ (pc := 205) (v := 1) dX8_joined_205 rfl ?_
                                refine g_goto Γ (pc := 206) (tgt := 210) dX8_joined_206 rfl ?_
                                exact rIr ret dX8_joined_210 hf
                              · refine g_iload_n Γ (pc := 201) 2 dX8_joined_201 rfl rfl ?_
                                refine g_if_eq Γ (pc := 202) (tgt := 209) dX8_joined_202 rfl hf (fun hf => ?_) (fun hf => ?_)
                                · refine g_iconst Γ (pc := 209) (v := 0) dX8_joined_209 rfl ?_
                                  exact rIr ret dX8_joined_210 hf
                                · refine g_iconst Γ (pc := 205) (v := 1) dX8_joined_205 rfl ?_
                                  refine g_goto Γ (pc := 206) (tgt := 210) dX8_joined_206 rfl ?_
                                  exact rIr ret dX8_joined_210 hf
                            · replace hf := ite_f h1_13 hf
                              by_cases h1_14 : a0 = 52
                              · replace hf := ite_t h1_14 hf
                                refine g_tin Γ (pc := 1) (tgt := 197) 52 dX8_joined_1 h1_14 (by decide) (by decide) rfl rfl ?_
                                refine g_iload_n Γ (pc := 197) 1 dX8_joined_197 rfl rfl ?_
                                refine g_if_ne Γ (pc := 198) (tgt := 205) dX8_joined_198 rfl hf (fun hf => ?_) (fun hf => ?_)
                                · refine g_iconst Γ (pc := 205) (v := 1) dX8_joined_205 rfl ?_
                                  refine g_goto Γ (pc := 206) (tgt := 210) dX8_joined_206 rfl ?_
                                  exact rIr ret dX8_joined_210 hf
                                · refine g_iload_n Γ (pc := 201) 2 dX8_joined_201 rfl rfl ?_
                                  refine g_if_eq Γ (pc := 202) (tgt := 209) dX8_joined_202 rfl hf (fun hf => ?_) (fun hf => ?_)
                                  · refine g_iconst Γ (pc := 209) (v := 0) dX8_joined_209 rfl ?_
                                    exact rIr ret dX8_joined_210 hf
                                  · refine g_iconst Γ (pc := 205) (v := 1) dX8_joined_205 rfl ?_
                                    refine g_goto Γ (pc := 206) (tgt := 210) dX8_joined_206 rfl ?_
                                    exact rIr ret dX8_joined_210 hf
                              · replace hf := ite_f h1_14 hf
                                by_cases h1_15 : a0 = 53
                                · replace hf := ite_t h1_15 hf
                                  refine g_tin Γ (pc := 1) (tgt := 197) 53 dX8_joined_1 h1_15 (by decide) (by decide) rfl rfl ?_
                                  refine g_iload_n Γ (pc := 197) 1 dX8_joined_197 rfl rfl ?_
                                  refine g_if_ne Γ (pc := 198) (tgt := 205) dX8_joined_198 rfl hf (fun hf => ?_) (fun hf => ?_)
                                  · refine g_iconst Γ (pc := 205) (v := 1) dX8_joined_205 rfl ?_
                                    refine g_goto Γ (pc := 206) (tgt := 210) dX8_joined_206 rfl ?_
                                    exact rIr ret dX8_joined_210 hf
                                  · refine g_iload_n Γ (pc := 201) 2 dX8_joined_201 rfl rfl ?_
                                    refine g_if_eq Γ (pc := 202) (tgt := 209) dX8_joined_202 rfl hf (fun hf => ?_) (fun hf => ?_)
                                    · refine g_iconst Γ (pc := 209) (v := 0) dX8_joined_209 rfl ?_
                                      exact rIr ret dX8_joined_210 hf
                                    · refine g_iconst Γ (pc := 205) (v := 1) dX8_joined_205 rfl ?_
                                      refine g_goto Γ (pc := 206) (tgt := 210) dX8_joined_206 rfl ?_
                                      exact rIr ret dX8_joined_210 hf
                                · replace hf := ite_f h1_15 hf
                                  by_cases h1_16 : a0 = 54
                                  · replace hf := ite_t h1_16 hf
                                    refine g_tin Γ (pc := 1) (tgt := 197) 54 dX8_joined_1 h1_16 (by decide) (by decide) rfl rfl ?_
                                    refine g_iload_n Γ (pc := 197) 1 dX8_joined_197 rfl rfl ?_
                                    refine g_if_ne Γ (pc := 198) (tgt := 205) dX8_joined_198 rfl hf (fun hf => ?_) (fun hf => ?_)
                                    · refine g_iconst Γ (pc := 205) (v := 1) dX8_joined_205 rfl ?_
                                      refine g_goto Γ (pc := 206) (tgt := 210) dX8_joined_206 rfl ?_
                                      exact rIr ret dX8_joined_210 hf
                                    · refine g_iload_n Γ (pc := 201) 2 dX8_joined_201 rfl rfl ?_
                                      refine g_if_eq Γ (pc := 202) (tgt := 209) dX8_joined_202 rfl hf (fun hf => ?_) (fun hf => ?_)
                                      · refine g_iconst Γ (pc := 209) (v := 0) dX8_joined_209 rfl ?_
                                        exact rIr ret dX8_joined_210 hf
                                      · refine g_iconst Γ (pc := 205) (v := 1) dX8_joined_205 rfl ?_
                                        refine g_goto Γ (pc := 206) (tgt := 210) dX8_joined_206 rfl ?_
                                        exact rIr ret dX8_joined_210 hf
                                  · replace hf := ite_f h1_16 hf
                                    by_cases h1_17 : a0 = 55
                                    · replace hf := ite_t h1_17 hf
                                      refine g_tin Γ (pc := 1) (tgt := 197) 55 dX8_joined_1 h1_17 (by decide) (by decide) rfl rfl ?_
                                      refine g_iload_n Γ (pc := 197) 1 dX8_joined_197 rfl rfl ?_
                                      refine g_if_ne Γ (pc := 198) (tgt := 205) dX8_joined_198 rfl hf (fun hf => ?_) (fun hf => ?_)
                                      · refine g_iconst Γ (pc := 205) (v := 1) dX8_joined_205 rfl ?_
                                        refine g_goto Γ (pc := 206) (tgt := 210) dX8_joined_206 rfl ?_
                                        exact rIr ret dX8_joined_210 hf
                                      · refine g_iload_n Γ (pc := 201) 2 dX8_joined_201 rfl rfl ?_
                                        refine g_if_eq Γ (pc := 202) (tgt := 209) dX8_joined_202 rfl hf (fun hf => ?_) (fun hf => ?_)
                                        · refine g_iconst Γ (pc := 209) (v := 0) dX8_joined_209 rfl ?_
                                          exact rIr ret dX8_joined_210 hf
                                        · refine g_iconst Γ (pc := 205) (v := 1) dX8_joined_205 rfl ?_
                                          refine g_goto Γ (pc := 206) (tgt := 210) dX8_joined_206 rfl ?_
                                          exact rIr ret dX8_joined_210 hf
                                    · replace hf := ite_f h1_17 hf
                                      by_cases h1_18 : a0 = 56
                                      · replace hf := ite_t h1_18 hf
                                        refine g_tin Γ (pc := 1) (tgt := 197) 56 dX8_joined_1 h1_18 (by decide) (by decide) rfl rfl ?_
                                        refine g_iload_n Γ (pc := 197) 1 dX8_joined_197 rfl rfl ?_
                                        refine g_if_ne Γ (pc := 198) (tgt := 205) dX8_joined_198 rfl hf (fun hf => ?_) (fun hf => ?_)
                                        · refine g_iconst Γ (pc := 205) (v := 1) dX8_joined_205 rfl ?_
                                          refine g_goto Γ (pc := 206) (tgt := 210) dX8_joined_206 rfl ?_
                                          exact rIr ret dX8_joined_210 hf
                                        · refine g_iload_n Γ (pc := 201) 2 dX8_joined_201 rfl rfl ?_
                                          refine g_if_eq Γ (pc := 202) (tgt := 209) dX8_joined_202 rfl hf (fun hf => ?_) (fun hf => ?_)
                                          · refine g_iconst Γ (pc := 209) (v := 0) dX8_joined_209 rfl ?_
                                            exact rIr ret dX8_joined_210 hf
                                          · refine g_iconst Γ (pc := 205) (v := 1) dX8_joined_205 rfl ?_
                                            refine g_goto Γ (pc := 206) (tgt := 210) dX8_joined_206 rfl ?_
                                            exact rIr ret dX8_joined_210 hf
                                      · replace hf := ite_f h1_18 hf
                                        by_cases h1_19 : a0 = 57
                                        · replace hf := ite_t h1_19 hf
                                          refine g_tin Γ (pc := 1) (tgt := 197) 57 dX8_joined_1 h1_19 (by decide) (by decide) rfl rfl ?_
                                          refine g_iload_n Γ (pc := 197) 1 dX8_joined_197 rfl rfl ?_
                                          refine g_if_ne Γ (pc := 198) (tgt := 205) dX8_joined_198 rfl hf (fun hf => ?_) (fun hf => ?_)
                                          · refine g_iconst Γ (pc := 205) (v := 1) dX8_joined_205 rfl ?_
                                            refine g_goto Γ (pc := 206) (tgt := 210) dX8_joined_206 rfl ?_
                                            exact rIr ret dX8_joined_210 hf
                                          · refine g_iload_n Γ (pc := 201) 2 dX8_joined_201 rfl rfl ?_
                                            refine g_if_eq Γ (pc := 202) (tgt := 209) dX8_joined_202 rfl hf (fun hf => ?_) (fun hf => ?_)
                                            · refine g_iconst Γ (pc := 209) (v := 0) dX8_joined_209 rfl ?_
                                              exact rIr ret dX8_joined_210 hf
                                            · refine g_iconst Γ (pc := 205) (v := 1) dX8_joined_205 rfl ?_
                                              refine g_goto Γ (pc := 206) (tgt := 210) dX8_joined_206 rfl ?_
                                              exact rIr ret dX8_joined_210 hf
                                        · replace hf := ite_f h1_19 hf
                                          by_cases h1_20 : a0 = 58
                                          · replace hf := ite_t h1_20 hf
                                            refine g_tin Γ (pc := 1) (tgt := 197) 58 dX8_joined_1 h1_20 (by decide) (by decide) rfl rfl ?_
                                            refine g_iload_n Γ (pc := 197) 1 dX8_joined_197 rfl rfl ?_
                                            refine g_if_ne Γ (pc := 198) (tgt := 205) dX8_joined_198 rfl hf (fun hf => ?_) (fun hf => ?_)
                                            · refine g_iconst Γ (pc := 205) (v := 1) dX8_joined_205 rfl ?_
                                              refine g_goto Γ (pc := 206) (tgt := 210) dX8_joined_206 rfl ?_
                                              exact rIr ret dX8_joined_210 hf
                                            · refine g_iload_n Γ (pc := 201) 2 dX8_joined_201 rfl rfl ?_
                                              refine g_if_eq Γ (pc := 202) (tgt := 209) dX8_joined_202 rfl hf (fun hf => ?_) (fun hf => ?_)
                                              · refine g_iconst Γ (pc := 209) (v := 0) dX8_joined_209 rfl ?_
                                                exact rIr ret dX8_joined_210 hf
                                              · refine g_iconst Γ (pc := 205) (v := 1) dX8_joined_205 rfl ?_
                                                refine g_goto Γ (pc := 206) (tgt := 210) dX8_joined_206 rfl ?_
                                                exact rIr ret dX8_joined_210 hf
                                          · replace hf := ite_f h1_20 hf
                                            by_cases h1_21 : a0 = 59
                                            · replace hf := ite_t h1_21 hf
                                              refine g_tin Γ (pc := 1) (tgt := 197) 59 dX8_joined_1 h1_21 (by decide) (by decide) rfl rfl ?_
                                              refine g_iload_n Γ (pc := 197) 1 dX8_joined_197 rfl rfl ?_
                                              refine g_if_ne Γ (pc := 198) (tgt := 205) dX8_joined_198 rfl hf (fun hf => ?_) (fun hf => ?_)
                                              · refine g_iconst Γ (pc := 205) (v := 1) dX8_joined_205 rfl ?_
                                                refine g_goto Γ (pc := 206) (tgt := 210) dX8_joined_206 rfl ?_
                                                exact rIr ret dX8_joined_210 hf
                                              · refine g_iload_n Γ (pc := 201) 2 dX8_joined_201 rfl rfl ?_
                                                refine g_if_eq Γ (pc := 202) (tgt := 209) dX8_joined_202 rfl hf (fun hf => ?_) (fun hf => ?_)
                                                · refine g_iconst Γ (pc := 209) (v := 0) dX8_joined_209 rfl ?_
                                                  exact rIr ret dX8_joined_210 hf
                                                · refine g_iconst Γ (pc := 205) (v := 1) dX8_joined_205 rfl ?_
                                                  refine g_goto Γ (pc := 206) (tgt := 210) dX8_joined_206 rfl ?_
                                                  exact rIr ret dX8_joined_210 hf
                                            · replace hf := ite_f h1_21 hf
                                              by_cases h1_22 : a0 = 60
                                              · replace hf := ite_t h1_22 hf
                                                refine g_tin Γ (pc := 1) (tgt := 150) 60 dX8_joined_1 h1_22 (by decide) (by decide) rfl rfl ?_
                                                refine g_iload_n Γ (pc := 150) 1 dX8_joined_150 rfl rfl ?_
                                                refine g_iload_n Γ (pc := 151) 2 dX8_joined_151 rfl rfl ?_
                                                refine g_icmp_ge Γ (pc := 152) (tgt := 159) dX8_joined_152 rfl hf (fun hf => ?_) (fun hf => ?_)
                                                · refine g_iconst Γ (pc := 159) (v := 0) dX8_joined_159 rfl ?_
                                                  exact rIr ret dX8_joined_160 hf
                                                · refine g_iconst Γ (pc := 155) (v := 1) dX8_joined_155 rfl ?_
                                                  refine g_goto Γ (pc := 156) (tgt := 160) dX8_joined_156 rfl ?_
                                                  exact rIr ret dX8_joined_160 hf
                                              · replace hf := ite_f h1_22 hf
                                                by_cases h1_23 : a0 = 61
                                                · replace hf := ite_t h1_23 hf
                                                  refine g_tin Γ (pc := 1) (tgt := 172) 61 dX8_joined_1 h1_23 (by decide) (by decide) rfl rfl ?_
                                                  refine g_iload_n Γ (pc := 172) 1 dX8_joined_172 rfl rfl ?_
                                                  refine g_iload_n Γ (pc := 173) 2 dX8_joined_173 rfl rfl ?_
                                                  refine g_icmp_ne Γ (pc := 174) (tgt := 181) dX8_joined_174 rfl hf (fun hf => ?_) (fun hf => ?_)
                                                  · refine g_iconst Γ (pc := 181) (v := 0) dX8_joined_181 rfl ?_
                                                    exact rIr ret dX8_joined_182 hf
                                                  · refine g_iconst Γ (pc := 177) (v := 1) dX8_joined_177 rfl ?_
                                                    refine g_goto Γ (pc := 178) (tgt := 182) dX8_joined_178 rfl ?_
                                                    exact rIr ret dX8_joined_182 hf
                                                · replace hf := ite_f h1_23 hf
                                                  by_cases h1_24 : a0 = 62
                                                  · replace hf := ite_t h1_24 hf
                                                    refine g_tin Γ (pc := 1) (tgt := 161) 62 dX8_joined_1 h1_24 (by decide) (by decide) rfl rfl ?_
                                                    refine g_iload_n Γ (pc := 161) 1 dX8_joined_161 rfl rfl ?_
                                                    refine g_iload_n Γ (pc := 162) 2 dX8_joined_162 rfl rfl ?_
                                                    refine g_icmp_le Γ (pc := 163) (tgt := 170) dX8_joined_163 rfl hf (fun hf => ?_) (fun hf => ?_)
                                                    · refine g_iconst Γ (pc := 170) (v := 0) dX8_joined_170 rfl ?_
                                                      exact rIr ret dX8_joined_171 hf
                                                    · refine g_iconst Γ (pc := 166) (v := 1) dX8_joined_166 rfl ?_
                                                      refine g_goto Γ (pc := 167) (tgt := 171) dX8_joined_167 rfl ?_
                                                      exact rIr ret dX8_joined_171 hf
                                                  · replace hf := ite_f h1_24 hf
                                                    refine g_tableOut Γ (pc := 1) (tgt := 197) dX8_joined_1 (by have e0 := ne_ti (k := 38) rfl h1_0; have e1 := ne_ti (k := 39) rfl h1_1; have e2 := ne_ti (k := 40) rfl h1_2; have e3 := ne_ti (k := 41) rfl h1_3; have e4 := ne_ti (k := 42) rfl h1_4; have e5 := ne_ti (k := 43) rfl h1_5; have e6 := ne_ti (k := 44) rfl h1_6; have e7 := ne_ti (k := 45) rfl h1_7; have e8 := ne_ti (k := 46) rfl h1_8; have e9 := ne_ti (k := 47) rfl h1_9; have e10 := ne_ti (k := 48) rfl h1_10; have e11 := ne_ti (k := 49) rfl h1_11; have e12 := ne_ti (k := 50) rfl h1_12; have e13 := ne_ti (k := 51) rfl h1_13; have e14 := ne_ti (k := 52) rfl h1_14; have e15 := ne_ti (k := 53) rfl h1_15; have e16 := ne_ti (k := 54) rfl h1_16; have e17 := ne_ti (k := 55) rfl h1_17; have e18 := ne_ti (k := 56) rfl h1_18; have e19 := ne_ti (k := 57) rfl h1_19; have e20 := ne_ti (k := 58) rfl h1_20; have e21 := ne_ti (k := 59) rfl h1_21; have e22 := ne_ti (k := 60) rfl h1_22; have e23 := ne_ti (k := 61) rfl h1_23; have e24 := ne_ti (k := 62) rfl h1_24; omega) rfl ?_
                                                    refine g_iload_n Γ (pc := 197) 1 dX8_joined_197 rfl rfl ?_
                                                    refine g_if_ne Γ (pc := 198) (tgt := 205) dX8_joined_198 rfl hf (fun hf => ?_) (fun hf => ?_)
                                                    · refine g_iconst Γ (pc := 205) (v := 1) dX8_joined_205 rfl ?_
                                                      refine g_goto Γ (pc := 206) (tgt := 210) dX8_joined_206 rfl ?_
                                                      exact rIr ret dX8_joined_210 hf
                                                    · refine g_iload_n Γ (pc := 201) 2 dX8_joined_201 rfl rfl ?_
                                                      refine g_if_eq Γ (pc := 202) (tgt := 209) dX8_joined_202 rfl hf (fun hf => ?_) (fun hf => ?_)
                                                      · refine g_iconst Γ (pc := 209) (v := 0) dX8_joined_209 rfl ?_
                                                        exact rIr ret dX8_joined_210 hf
                                                      · refine g_iconst Γ (pc := 205) (v := 1) dX8_joined_205 rfl ?_
                                                        refine g_goto Γ (pc := 206) (tgt := 210) dX8_joined_206 rfl ?_
                                                        exact rIr ret dX8_joined_210 hf
def f_X8_worked_K4_163 (m1 : Mem) : Option (Int32 × Mem) :=
  bn1 (ldM (m1 15) 100 0) fun v2 =>
  some (v2, m1)
def f_X8_worked_J157 (x3_4 : Int32) (x2_12 : Int32) (m13 : Mem) : Option ((Int32 × Int32 × Mem) ⊕ Mem) :=
  some (.inl (x2_12, x3_4 + 1, m13))
def f_X8_worked_J123 (x2_3 : Int32) (x3_4 : Int32) (m5 : Mem) (s19 : Int32) : Option ((Int32 × Int32 × Mem) ⊕ Mem) :=
  bn1 (stM m5 15 100 (x2_3 - 1) s19) fun m20 =>
  f_X8_worked_J157 x3_4 x2_3 m20
def f_X8_worked_J86 (x2_3 : Int32) (x3_4 : Int32) (m5 : Mem) (s21 : Int32) : Option ((Int32 × Int32 × Mem) ⊕ Mem) :=
  bn1 (stM m5 15 100 x2_3 s21) fun m22 =>
  f_X8_worked_J157 x3_4 (x2_3 + 1) m22
def f_X8_worked_L4 (a0 : Int32) (x2_3 : Int32) (x3_4 : Int32) (m5 : Mem) : Option ((Int32 × Int32 × Mem) ⊕ Mem) :=
  bn1 (f_X8_textAt a0 m5) fun v6 =>
  bn1 (ldM (m5 1) 3059 (v6 + 2)) fun v7 =>
  if v7 ≤ x3_4 then
    some (.inr m5)
  else
    bn1 (f_X8_textAt a0 m5) fun v8 =>
    bn1 (ldM (m5 1) 3059 ((v8 + 4) + (2 * x3_4))) fun v9 =>
    bn1 (f_X8_textAt a0 m5) fun v10 =>
    bn1 (ldM (m5 1) 3059 (((v10 + 4) + (2 * x3_4)) + 1)) fun v11 =>
    if v9 = 2 then
      if v11 = 33 then
        bn1 (ldM (m5 15) 100 (x2_3 - 1)) fun v18 =>
        if v18 = 0 then
          f_X8_worked_J123 x2_3 x3_4 m5 1
        else
          f_X8_worked_J123 x2_3 x3_4 m5 0
      else
        bn1 (ldM (m5 15) 100 ((x2_3 + (-1)) - 1)) fun v14 =>
        bn1 (ldM (m5 15) 100 (x2_3 + (-1))) fun v15 =>
        bn1 (f_X8_joined v11 v14 v15) fun v16 =>
        bn1 (stM m5 15 100 ((x2_3 + (-1)) - 1) v16) fun m17 =>
        f_X8_worked_J157 x3_4 (x2_3 + (-1)) m17
    else
      if v9 = 0 then
        f_X8_worked_J86 x2_3 x3_4 m5 v11
      else
        bn1 (ldM (m5 14) 128 v11) fun v23 =>
        f_X8_worked_J86 x2_3 x3_4 m5 v23
def f_X8_worked (a0 : Int32) (μ : Mem) : Option (Int32 × Mem) :=
  bn1 (lpF (fun v => f_X8_worked_L4 a0 v.1 v.2.1 v.2.2) 4000 (0, 0, μ)) (fun x => f_X8_worked_K4_163 x)
set_option maxRecDepth 100000 in
set_option maxHeartbeats 4000000 in
theorem c_X8_worked {Y : SYS} (hM : IsM Y) {a0 : Int32} {μ : Mem} {x : Int32} {m : Mem} (hf : f_X8_worked a0 μ = some (x, m)) : KC Y yX8_worked cX8_worked 6 (some .int) 1 [.ref (sq Y 0), .int a0] μ (some (.int x)) m := by
  refine KC.I RX8 [(0, .ref (sq Y 0)), (1, .int a0)] (by decide) rfl (Nat.le_of_ble_eq_true rfl) rfl (fun G Γ ret => ?_)
  unfold f_X8_worked at hf
  refine g_iconst Γ (pc := 0) (v := 0) dX8_worked_0 rfl ?_
  refine g_istore_n Γ (pc := 1) (lv' := [(2, .int 0), (0, .ref (sq Y 0)), (1, .int a0)]) dX8_worked_1 rfl (by decide) rfl ?_
  refine g_iconst Γ (pc := 2) (v := 0) dX8_worked_2 rfl ?_
  refine g_istore_n Γ (pc := 3) (lv' := [(3, .int 0), (2, .int 0), (0, .ref (sq Y 0)), (1, .int a0)]) dX8_worked_3 rfl (by decide) rfl ?_
  have K_4_163 : ∀ (m1 : Mem), f_X8_worked_K4_163 m1 = some (x, m) → G 163 [(0, .ref (sq Y 0))] [] m1 := by
    intro m1 hf
    unfold f_X8_worked_K4_163 at hf
    refine g_aload_n Γ (pc := 163) 0 dX8_worked_163 rfl rfl ?_
    refine g_get Γ (pc := 164) (v := .ref (sq Y 15)) dX8_worked_164 (M_obj hM) fr_X8_52 rfl ?_
    refine g_iconst Γ (pc := 167) (v := 0) dX8_worked_167 rfl ?_
    refine g_iald Γ (pc := 168) dX8_worked_168 (M_15 hM) hf (fun v2 hf => ?_)
    exact rI ret dX8_worked_169 hf
  refine g_sub Γ [2, 3, 1, 0] rfl ?_
  refine lpF_s (P := fun (v : Int32 × Int32 × Mem) => G 4 [(0, .ref (sq Y 0)), (1, .int a0), (2, .int v.1), (3, .int v.2.1)] [] v.2.2) hf (fun v z1 hf kI1 kX1 => ?_)
  obtain ⟨x2_3, x3_4, m5⟩ := v
  replace hf : f_X8_worked_L4 a0 x2_3 x3_4 m5 = some z1 := hf
  show G 4 [(0, .ref (sq Y 0)), (1, .int a0), (2, .int x2_3), (3, .int x3_4)] [] m5
  unfold f_X8_worked_L4 at hf
  refine g_iload_n Γ (pc := 4) 3 dX8_worked_4 rfl rfl ?_
  refine g_aload_n Γ (pc := 5) 0 dX8_worked_5 rfl rfl ?_
  refine g_get Γ (pc := 6) (v := .ref (sq Y 1)) dX8_worked_6 (M_obj hM) fr_X8_7 rfl ?_
  refine g_aload_n Γ (pc := 9) 0 dX8_worked_9 rfl rfl ?_
  refine g_iload_n Γ (pc := 10) 1 dX8_worked_10 rfl rfl ?_
  obtain ⟨v6, h1, hf⟩ := bn1_i hf
  refine g_callVI Γ (pc := 11) (as := [.int a0]) (st := [.ref (sq Y 1), .int x3_4]) dX8_worked_11 (c_X8_textAt hM h1) (M_obj hM) rfl mi_X8_textAt mv_X8_textAt kM_X8_299 rfl ⟨Nat.le_of_ble_eq_true rfl, Nat.le_of_ble_eq_true rfl⟩ rfl (Nat.le_of_ble_eq_true rfl) ?_
  refine g_iconst Γ (pc := 14) (v := 2) dX8_worked_14 rfl ?_
  refine g_iadd Γ (pc := 15) dX8_worked_15 ?_
  refine g_iald Γ (pc := 16) dX8_worked_16 (M_1 hM) hf (fun v7 hf => ?_)
  refine g_icmp_ge Γ (pc := 17) (tgt := 163) dX8_worked_17 rfl hf (fun hf => ?_) (fun hf => ?_)
  · refine g_sub Γ [0] rfl ?_
    exact K_4_163 m5 (kX1 m5 (Option.some.inj hf).symm)
  · refine g_aload_n Γ (pc := 20) 0 dX8_worked_20 rfl rfl ?_
    refine g_get Γ (pc := 21) (v := .ref (sq Y 1)) dX8_worked_21 (M_obj hM) fr_X8_7 rfl ?_
    refine g_aload_n Γ (pc := 24) 0 dX8_worked_24 rfl rfl ?_
    refine g_iload_n Γ (pc := 25) 1 dX8_worked_25 rfl rfl ?_
    obtain ⟨v8, h1, hf⟩ := bn1_i hf
    refine g_callVI Γ (pc := 26) (as := [.int a0]) (st := [.ref (sq Y 1)]) dX8_worked_26 (c_X8_textAt hM h1) (M_obj hM) rfl mi_X8_textAt mv_X8_textAt kM_X8_299 rfl ⟨Nat.le_of_ble_eq_true rfl, Nat.le_of_ble_eq_true rfl⟩ rfl (Nat.le_of_ble_eq_true rfl) ?_
    refine g_iconst Γ (pc := 29) (v := 4) dX8_worked_29 rfl ?_
    refine g_iadd Γ (pc := 30) dX8_worked_30 ?_
    refine g_iconst Γ (pc := 31) (v := 2) dX8_worked_31 rfl ?_
    refine g_iload_n Γ (pc := 32) 3 dX8_worked_32 rfl rfl ?_
    refine g_imul Γ (pc := 33) dX8_worked_33 ?_
    refine g_iadd Γ (pc := 34) dX8_worked_34 ?_
    refine g_iald Γ (pc := 35) dX8_worked_35 (M_1 hM) hf (fun v9 hf => ?_)
    refine g_istore Γ (pc := 36) (lv' := [(4, .int v9), (0, .ref (sq Y 0)), (1, .int a0), (2, .int x2_3), (3, .int x3_4)]) dX8_worked_36 (by decide) rfl ?_
    refine g_aload_n Γ (pc := 38) 1 dX8_worked_38 rfl rfl ?_
    refine g_get Γ (pc := 39) (v := .ref (sq Y 1)) dX8_worked_39 (M_obj hM) fr_X8_7 rfl ?_
    refine g_aload_n Γ (pc := 42) 1 dX8_worked_42 rfl rfl ?_
    refine g_iload_n Γ (pc := 43) 2 dX8_worked_43 rfl rfl ?_
    obtain ⟨v10, h1, hf⟩ := bn1_i hf
    refine g_callVI Γ (pc := 44) (as := [.int a0]) (st := [.ref (sq Y 1)]) dX8_worked_44 (c_X8_textAt hM h1) (M_obj hM) rfl mi_X8_textAt mv_X8_textAt kM_X8_299 rfl ⟨Nat.le_of_ble_eq_true rfl, Nat.le_of_ble_eq_true rfl⟩ rfl (Nat.le_of_ble_eq_true rfl) ?_
    refine g_iconst Γ (pc := 47) (v := 4) dX8_worked_47 rfl ?_
    refine g_iadd Γ (pc := 48) dX8_worked_48 ?_
    refine g_iconst Γ (pc := 49) (v := 2) dX8_worked_49 rfl ?_
    refine g_iload_n Γ (pc := 50) 4 dX8_worked_50 rfl rfl ?_
    refine g_imul Γ (pc := 51) dX8_worked_51 ?_
    refine g_iadd Γ (pc := 52) dX8_worked_52 ?_
    refine g_iconst Γ (pc := 53) (v := 1) dX8_worked_53 rfl ?_
    refine g_iadd Γ (pc := 54) dX8_worked_54 ?_
    refine g_iald Γ (pc := 55) dX8_worked_55 (M_1 hM) hf (fun v11 hf => ?_)
    refine g_istore Γ (pc := 56) (lv' := [(5, .int v11), (4, .int v9), (0, .ref (sq Y 0)), (1, .int a0), (2, .int x2_3), (3, .int x3_4)]) dX8_worked_56 (by decide) rfl ?_
    refine g_iload Γ (pc := 58) 1 dX8_worked_58 rfl ?_
    refine g_iconst Γ (pc := 60) (v := 2) dX8_worked_60 rfl ?_
    have J_157 : ∀ (x2_12 : Int32) (m13 : Mem), f_X8_worked_J157 x3_4 x2_12 m13 = some z1 → G 157 [(0, .ref (sq Y 0)), (1, .int a0), (2, .int x2_12), (3, .int x3_4)] [] m13 := by
      intro x2_12 m13 hf
      unfold f_X8_worked_J157 at hf
      refine g_iinc Γ (pc := 157) (v := x3_4 + 1) (lv' := [(3, .int (x3_4 + 1)), (0, .ref (sq Y 0)), (1, .int a0), (2, .int x2_12)]) 3 dX8_worked_157 rfl rfl (by decide) rfl ?_
      refine g_goto Γ (pc := 160) (tgt := 4) dX8_worked_160 rfl ?_
      refine g_sub Γ [1, 2, 3, 0] rfl ?_
      exact kI1 (x2_12, x3_4 + 1, m13) (Option.some.inj hf).symm
    refine g_icmp_eq Γ (pc := 61) (tgt := 93) dX8_worked_61 rfl hf (fun hf => ?_) (fun hf => ?_)
    · refine g_iload Γ (pc := 93) 0 dX8_worked_93 rfl ?_
      refine g_bipush Γ (pc := 95) (v := 33) dX8_worked_95 rfl ?_
      refine g_icmp_ne Γ (pc := 97) (tgt := 127) dX8_worked_97 rfl hf (fun hf => ?_) (fun hf => ?_)
      · refine g_iinc Γ (pc := 127) (v := x2_3 + (-1)) (lv' := [(2, .int (x2_3 + (-1))), (5, .int v11), (4, .int v9), (0, .ref (sq Y 0)), (1, .int a0), (3, .int x3_4)]) 4 dX8_worked_127 rfl rfl (by decide) rfl ?_
        refine g_aload_n Γ (pc := 130) 3 dX8_worked_130 rfl rfl ?_
        refine g_get Γ (pc := 131) (v := .ref (sq Y 15)) dX8_worked_131 (M_obj hM) fr_X8_52 rfl ?_
        refine g_iload_n Γ (pc := 134) 0 dX8_worked_134 rfl rfl ?_
        refine g_iconst Γ (pc := 135) (v := 1) dX8_worked_135 rfl ?_
        refine g_isub Γ (pc := 136) dX8_worked_136 ?_
        refine g_iload Γ (pc := 137) 1 dX8_worked_137 rfl ?_
        refine g_aload_n Γ (pc := 139) 3 dX8_worked_139 rfl rfl ?_
        refine g_get Γ (pc := 140) (v := .ref (sq Y 15)) dX8_worked_140 (M_obj hM) fr_X8_52 rfl ?_
        refine g_iload_n Γ (pc := 143) 0 dX8_worked_143 rfl rfl ?_
        refine g_iconst Γ (pc := 144) (v := 1) dX8_worked_144 rfl ?_
        refine g_isub Γ (pc := 145) dX8_worked_145 ?_
        refine g_iald Γ (pc := 146) dX8_worked_146 (M_15 hM) hf (fun v14 hf => ?_)
        refine g_aload_n Γ (pc := 147) 3 dX8_worked_147 rfl rfl ?_
        refine g_get Γ (pc := 148) (v := .ref (sq Y 15)) dX8_worked_148 (M_obj hM) fr_X8_52 rfl ?_
        refine g_iload_n Γ (pc := 151) 0 dX8_worked_151 rfl rfl ?_
        refine g_iald Γ (pc := 152) dX8_worked_152 (M_15 hM) hf (fun v15 hf => ?_)
        obtain ⟨v16, h1, hf⟩ := bn1_i hf
        refine g_callSI Γ (pc := 153) (as := [.int v11, .int v14, .int v15]) (st := [.int ((x2_3 + (-1)) - 1), .ref (sq Y 15)]) dX8_worked_153 (c_X8_joined h1) mi_X8_joined ms_X8_joined kM_X8_311 rfl ⟨Nat.le_of_ble_eq_true rfl, Nat.le_of_ble_eq_true rfl⟩ rfl (Nat.le_of_ble_eq_true rfl) ?_
        refine g_iast Γ (pc := 156) dX8_worked_156 (M_15 hM) hf (fun m17 hf => ?_)
        refine g_sub Γ [3, 4, 0, 5] rfl ?_
        exact J_157 (x2_3 + (-1)) m17 hf
      · refine g_aload_n Γ (pc := 100) 2 dX8_worked_100 rfl rfl ?_
        refine g_get Γ (pc := 101) (v := .ref (sq Y 15)) dX8_worked_101 (M_obj hM) fr_X8_52 rfl ?_
        refine g_iload_n Γ (pc := 104) 4 dX8_worked_104 rfl rfl ?_
        refine g_iconst Γ (pc := 105) (v := 1) dX8_worked_105 rfl ?_
        refine g_isub Γ (pc := 106) dX8_worked_106 ?_
        refine g_aload_n Γ (pc := 107) 2 dX8_worked_107 rfl rfl ?_
        refine g_get Γ (pc := 108) (v := .ref (sq Y 15)) dX8_worked_108 (M_obj hM) fr_X8_52 rfl ?_
        refine g_iload_n Γ (pc := 111) 4 dX8_worked_111 rfl rfl ?_
        refine g_iconst Γ (pc := 112) (v := 1) dX8_worked_112 rfl ?_
        refine g_isub Γ (pc := 113) dX8_worked_113 ?_
        refine g_iald Γ (pc := 114) dX8_worked_114 (M_15 hM) hf (fun v18 hf => ?_)
        have J_123 : ∀ (s19 : Int32), f_X8_worked_J123 x2_3 x3_4 m5 s19 = some z1 → G 123 [(0, .ref (sq Y 0)), (1, .int a0), (2, .int x2_3), (3, .int x3_4)] [.int s19, .int (x2_3 - 1), .ref (sq Y 15)] m5 := by
          intro s19 hf
          unfold f_X8_worked_J123 at hf
          refine g_iast Γ (pc := 123) dX8_worked_123 (M_15 hM) hf (fun m20 hf => ?_)
          refine g_goto Γ (pc := 124) (tgt := 157) dX8_worked_124 rfl ?_
          refine g_sub Γ [0, 1, 2, 3] rfl ?_
          exact J_157 x2_3 m20 hf
        refine g_if_ne Γ (pc := 115) (tgt := 122) dX8_worked_115 rfl hf (fun hf => ?_) (fun hf => ?_)
        · refine g_iconst Γ (pc := 122) (v := 0) dX8_worked_122 rfl ?_
          refine g_sub Γ [2, 3, 4, 5] rfl ?_
          exact J_123 0 hf
        · refine g_iconst Γ (pc := 118) (v := 1) dX8_worked_118 rfl ?_
          refine g_goto Γ (pc := 119) (tgt := 123) dX8_worked_119 rfl ?_
          refine g_sub Γ [2, 3, 4, 5] rfl ?_
          exact J_123 1 hf
    · refine g_aload_n Γ (pc := 64) 2 dX8_worked_64 rfl rfl ?_
      refine g_get Γ (pc := 65) (v := .ref (sq Y 15)) dX8_worked_65 (M_obj hM) fr_X8_52 rfl ?_
      refine g_iload_n Γ (pc := 68) 4 dX8_worked_68 rfl rfl ?_
      refine g_iload Γ (pc := 69) 1 dX8_worked_69 rfl ?_
      have J_86 : ∀ (s21 : Int32), f_X8_worked_J86 x2_3 x3_4 m5 s21 = some z1 → G 86 [(0, .ref (sq Y 0)), (1, .int a0), (2, .int x2_3), (3, .int x3_4)] [.int s21, .int x2_3, .ref (sq Y 15)] m5 := by
        intro s21 hf
        unfold f_X8_worked_J86 at hf
        refine g_iast Γ (pc := 86) dX8_worked_86 (M_15 hM) hf (fun m22 hf => ?_)
        refine g_iinc Γ (pc := 87) (v := x2_3 + 1) (lv' := [(2, .int (x2_3 + 1)), (0, .ref (sq Y 0)), (1, .int a0), (3, .int x3_4)]) 2 dX8_worked_87 rfl rfl (by decide) rfl ?_
        refine g_goto Γ (pc := 90) (tgt := 157) dX8_worked_90 rfl ?_
        refine g_sub Γ [1, 2, 0, 3] rfl ?_
        exact J_157 (x2_3 + 1) m22 hf
      refine g_if_ne Γ (pc := 71) (tgt := 79) dX8_worked_71 rfl hf (fun hf => ?_) (fun hf => ?_)
      · refine g_aload_n Γ (pc := 79) 2 dX8_worked_79 rfl rfl ?_
        refine g_get Γ (pc := 80) (v := .ref (sq Y 14)) dX8_worked_80 (M_obj hM) fr_X8_49 rfl ?_
        refine g_iload Γ (pc := 83) 0 dX8_worked_83 rfl ?_
        refine g_iald Γ (pc := 85) dX8_worked_85 (M_14 hM) hf (fun v23 hf => ?_)
        refine g_sub Γ [2, 3, 4, 5] rfl ?_
        exact J_86 v23 hf
      · refine g_iload Γ (pc := 74) 0 dX8_worked_74 rfl ?_
        refine g_goto Γ (pc := 76) (tgt := 86) dX8_worked_76 rfl ?_
        refine g_sub Γ [2, 3, 4, 5] rfl ?_
        exact J_86 v11 hf
def f_X8_within (a0 : Int32) (a1 : Int32) (a2 : Int32) : Option (Int32) :=
  if a1 ≤ a0 then
    if a0 ≤ a2 then
      some a0
    else
      some a2
  else
    some a1
set_option maxRecDepth 100000 in
set_option maxHeartbeats 4000000 in
theorem c_X8_within {Y : SYS} {a0 : Int32} {a1 : Int32} {a2 : Int32} {μ : Mem} {x : Int32} (hf : f_X8_within a0 a1 a2 = some x) : KC Y yX8_within cX8_within 3 (some .int) 0 [.int a0, .int a1, .int a2] μ (some (.int x)) μ := by
  refine KC.I RX8 [(0, .int a0), (1, .int a1), (2, .int a2)] (by decide) rfl (Nat.le_of_ble_eq_true rfl) rfl (fun G Γ ret => ?_)
  unfold f_X8_within at hf
  refine g_iload_n Γ (pc := 0) 0 dX8_within_0 rfl rfl ?_
  refine g_iload_n Γ (pc := 1) 1 dX8_within_1 rfl rfl ?_
  refine g_icmp_ge Γ (pc := 2) (tgt := 9) dX8_within_2 rfl hf (fun hf => ?_) (fun hf => ?_)
  · refine g_iload_n Γ (pc := 9) 0 dX8_within_9 rfl rfl ?_
    refine g_iload_n Γ (pc := 10) 2 dX8_within_10 rfl rfl ?_
    refine g_icmp_le Γ (pc := 11) (tgt := 18) dX8_within_11 rfl hf (fun hf => ?_) (fun hf => ?_)
    · refine g_iload_n Γ (pc := 18) 0 dX8_within_18 rfl rfl ?_
      exact rIr ret dX8_within_19 hf
    · refine g_iload_n Γ (pc := 14) 2 dX8_within_14 rfl rfl ?_
      refine g_goto Γ (pc := 15) (tgt := 19) dX8_within_15 rfl ?_
      exact rIr ret dX8_within_19 hf
  · refine g_iload_n Γ (pc := 5) 1 dX8_within_5 rfl rfl ?_
    refine g_goto Γ (pc := 6) (tgt := 19) dX8_within_6 rfl ?_
    exact rIr ret dX8_within_19 hf
def f_X8_dues_J72 (a0 : Int32) (x2_3 : Int32) (m4 : Mem) : Option (Int32 × Mem) :=
  bn1 (f_X8_of a0 0 m4) fun v5 =>
  if v5 = 1 then
    bn1 (dvM x2_3 2) fun v7 =>
    some (v7, m4)
  else
    if v5 = 2 then
      if 4 ≤ x2_3 then
        some ((x2_3 - 4), m4)
      else
        some (0, m4)
    else
      if v5 = 3 then
        bn1 (dvM x2_3 2) fun v6 =>
        some ((v6 + 2), m4)
      else
        if v5 = 4 then
          if 4 ≤ x2_3 then
            some ((x2_3 - 4), m4)
          else
            some (0, m4)
        else
          if v5 = 5 then
            some ((2 * x2_3), m4)
          else
            some (x2_3, m4)
def f_X8_dues (a0 : Int32) (μ : Mem) : Option (Int32 × Mem) :=
  bn1 (f_X8_offOf a0 μ) fun v1 =>
  bn1 (f_X8_counts 0 μ) fun v2 =>
  if v2 < 0 then
    f_X8_dues_J72 a0 (3 * v1) μ
  else
    bn1 (f_X8_offOf a0 μ) fun v8 =>
    bn1 (stM μ 14 128 111 v8) fun m9 =>
    bn1 (f_X8_of a0 4 m9) fun v10 =>
    bn1 (f_X8_manyIn v10) fun v11 =>
    bn1 (stM m9 14 128 102 v11) fun m12 =>
    bn1 (f_X8_of a0 1 m12) fun v13 =>
    bn1 (stM m12 14 128 109 v13) fun m14 =>
    bn2 (f_X8_worked v2 m14) fun v15 m16 =>
    bn1 (f_X8_within v15 0 999) fun v17 =>
    f_X8_dues_J72 a0 v17 m16
set_option maxRecDepth 100000 in
set_option maxHeartbeats 4000000 in
theorem c_X8_dues {Y : SYS} (hM : IsM Y) {a0 : Int32} {μ : Mem} {x : Int32} {m : Mem} (hf : f_X8_dues a0 μ = some (x, m)) : KC Y yX8_dues cX8_dues 4 (some .int) 3 [.ref (sq Y 0), .int a0] μ (some (.int x)) m := by
  refine KC.I RX8 [(0, .ref (sq Y 0)), (1, .int a0)] (by decide) rfl (Nat.le_of_ble_eq_true rfl) rfl (fun G Γ ret => ?_)
  unfold f_X8_dues at hf
  refine g_iconst Γ (pc := 0) (v := 3) dX8_dues_0 rfl ?_
  refine g_aload_n Γ (pc := 1) 0 dX8_dues_1 rfl rfl ?_
  refine g_iload_n Γ (pc := 2) 1 dX8_dues_2 rfl rfl ?_
  obtain ⟨v1, h1, hf⟩ := bn1_i hf
  refine g_callVI Γ (pc := 3) (as := [.int a0]) (st := [.int 3]) dX8_dues_3 (c_X8_offOf hM h1) (M_obj hM) rfl mi_X8_offOf mv_X8_offOf kM_X8_101 rfl ⟨Nat.le_of_ble_eq_true rfl, Nat.le_of_ble_eq_true rfl⟩ rfl (Nat.le_of_ble_eq_true rfl) ?_
  refine g_imul Γ (pc := 6) dX8_dues_6 ?_
  refine g_istore_n Γ (pc := 7) (lv' := [(2, .int (3 * v1)), (0, .ref (sq Y 0)), (1, .int a0)]) dX8_dues_7 rfl (by decide) rfl ?_
  refine g_aload_n Γ (pc := 8) 1 dX8_dues_8 rfl rfl ?_
  refine g_iconst Γ (pc := 9) (v := 0) dX8_dues_9 rfl ?_
  obtain ⟨v2, h1, hf⟩ := bn1_i hf
  refine g_callVI Γ (pc := 10) (as := [.int 0]) (st := []) dX8_dues_10 (c_X8_counts hM h1) (M_obj hM) rfl mi_X8_counts mv_X8_counts kM_X8_104 rfl ⟨Nat.le_of_ble_eq_true rfl, Nat.le_of_ble_eq_true rfl⟩ rfl (Nat.le_of_ble_eq_true rfl) ?_
  refine g_istore_n Γ (pc := 13) (lv' := [(3, .int v2), (2, .int (3 * v1)), (0, .ref (sq Y 0)), (1, .int a0)]) dX8_dues_13 rfl (by decide) rfl ?_
  refine g_iload_n Γ (pc := 14) 0 dX8_dues_14 rfl rfl ?_
  have J_72 : ∀ (x2_3 : Int32) (m4 : Mem), f_X8_dues_J72 a0 x2_3 m4 = some (x, m) → G 72 [(0, .ref (sq Y 0)), (1, .int a0), (2, .int x2_3)] [] m4 := by
    intro x2_3 m4 hf
    unfold f_X8_dues_J72 at hf
    refine g_aload_n Γ (pc := 72) 0 dX8_dues_72 rfl rfl ?_
    refine g_iload_n Γ (pc := 73) 1 dX8_dues_73 rfl rfl ?_
    refine g_iconst Γ (pc := 74) (v := 0) dX8_dues_74 rfl ?_
    obtain ⟨v5, h1, hf⟩ := bn1_i hf
    refine g_callVI Γ (pc := 75) (as := [.int a0, .int 0]) (st := []) dX8_dues_75 (c_X8_of hM h1) (M_obj hM) rfl mi_X8_of mv_X8_of kM_X8_83 rfl ⟨Nat.le_of_ble_eq_true rfl, Nat.le_of_ble_eq_true rfl⟩ rfl (Nat.le_of_ble_eq_true rfl) ?_
    by_cases h78_0 : v5 = 1
    · replace hf := ite_t h78_0 hf
      refine g_tin Γ (pc := 78) (tgt := 112) 1 dX8_dues_78 h78_0 (by decide) (by decide) rfl rfl ?_
      refine g_iload_n Γ (pc := 112) 2 dX8_dues_112 rfl rfl ?_
      refine g_iconst Γ (pc := 113) (v := 2) dX8_dues_113 rfl ?_
      refine g_idiv Γ (pc := 114) dX8_dues_114 hf (fun v7 hf => ?_)
      exact rI ret dX8_dues_115 hf
    · replace hf := ite_f h78_0 hf
      by_cases h78_1 : v5 = 2
      · replace hf := ite_t h78_1 hf
        refine g_tin Γ (pc := 78) (tgt := 122) 2 dX8_dues_78 h78_1 (by decide) (by decide) rfl rfl ?_
        refine g_iload_n Γ (pc := 122) 2 dX8_dues_122 rfl rfl ?_
        refine g_iconst Γ (pc := 123) (v := 4) dX8_dues_123 rfl ?_
        refine g_icmp_ge Γ (pc := 124) (tgt := 131) dX8_dues_124 rfl hf (fun hf => ?_) (fun hf => ?_)
        · refine g_iload_n Γ (pc := 131) 2 dX8_dues_131 rfl rfl ?_
          refine g_iconst Γ (pc := 132) (v := 4) dX8_dues_132 rfl ?_
          refine g_isub Γ (pc := 133) dX8_dues_133 ?_
          exact rI ret dX8_dues_134 hf
        · refine g_iconst Γ (pc := 127) (v := 0) dX8_dues_127 rfl ?_
          refine g_goto Γ (pc := 128) (tgt := 134) dX8_dues_128 rfl ?_
          exact rI ret dX8_dues_134 hf
      · replace hf := ite_f h78_1 hf
        by_cases h78_2 : v5 = 3
        · replace hf := ite_t h78_2 hf
          refine g_tin Γ (pc := 78) (tgt := 116) 3 dX8_dues_78 h78_2 (by decide) (by decide) rfl rfl ?_
          refine g_iload_n Γ (pc := 116) 2 dX8_dues_116 rfl rfl ?_
          refine g_iconst Γ (pc := 117) (v := 2) dX8_dues_117 rfl ?_
          refine g_idiv Γ (pc := 118) dX8_dues_118 hf (fun v6 hf => ?_)
          refine g_iconst Γ (pc := 119) (v := 2) dX8_dues_119 rfl ?_
          refine g_iadd Γ (pc := 120) dX8_dues_120 ?_
          exact rI ret dX8_dues_121 hf
        · replace hf := ite_f h78_2 hf
          by_cases h78_3 : v5 = 4
          · replace hf := ite_t h78_3 hf
            refine g_tin Γ (pc := 78) (tgt := 122) 4 dX8_dues_78 h78_3 (by decide) (by decide) rfl rfl ?_
            refine g_iload_n Γ (pc := 122) 2 dX8_dues_122 rfl rfl ?_
            refine g_iconst Γ (pc := 123) (v := 4) dX8_dues_123 rfl ?_
            refine g_icmp_ge Γ (pc := 124) (tgt := 131) dX8_dues_124 rfl hf (fun hf => ?_) (fun hf => ?_)
            · refine g_iload_n Γ (pc := 131) 2 dX8_dues_131 rfl rfl ?_
              refine g_iconst Γ (pc := 132) (v := 4) dX8_dues_132 rfl ?_
              refine g_isub Γ (pc := 133) dX8_dues_133 ?_
              exact rI ret dX8_dues_134 hf
            · refine g_iconst Γ (pc := 127) (v := 0) dX8_dues_127 rfl ?_
              refine g_goto Γ (pc := 128) (tgt := 134) dX8_dues_128 rfl ?_
              exact rI ret dX8_dues_134 hf
          · replace hf := ite_f h78_3 hf
            by_cases h78_4 : v5 = 5
            · replace hf := ite_t h78_4 hf
              refine g_tin Γ (pc := 78) (tgt := 135) 5 dX8_dues_78 h78_4 (by decide) (by decide) rfl rfl ?_
              refine g_iconst Γ (pc := 135) (v := 2) dX8_dues_135 rfl ?_
              refine g_iload_n Γ (pc := 136) 2 dX8_dues_136 rfl rfl ?_
              refine g_imul Γ (pc := 137) dX8_dues_137 ?_
              exact rI ret dX8_dues_138 hf
            · replace hf := ite_f h78_4 hf
              refine g_tableOut Γ (pc := 78) (tgt := 139) dX8_dues_78 (by have e0 := ne_ti (k := 1) rfl h78_0; have e1 := ne_ti (k := 2) rfl h78_1; have e2 := ne_ti (k := 3) rfl h78_2; have e3 := ne_ti (k := 4) rfl h78_3; have e4 := ne_ti (k := 5) rfl h78_4; omega) rfl ?_
              refine g_iload_n Γ (pc := 139) 2 dX8_dues_139 rfl rfl ?_
              exact rI ret dX8_dues_140 hf
  refine g_if_lt Γ (pc := 15) (tgt := 72) dX8_dues_15 rfl hf (fun hf => ?_) (fun hf => ?_)
  · refine g_sub Γ [2, 3, 1] rfl ?_
    exact J_72 (3 * v1) μ hf
  · refine g_aload_n Γ (pc := 18) 2 dX8_dues_18 rfl rfl ?_
    refine g_get Γ (pc := 19) (v := .ref (sq Y 14)) dX8_dues_19 (M_obj hM) fr_X8_49 rfl ?_
    refine g_bipush Γ (pc := 22) (v := 111) dX8_dues_22 rfl ?_
    refine g_aload_n Γ (pc := 24) 2 dX8_dues_24 rfl rfl ?_
    refine g_iload_n Γ (pc := 25) 3 dX8_dues_25 rfl rfl ?_
    obtain ⟨v8, h1, hf⟩ := bn1_i hf
    refine g_callVI Γ (pc := 26) (as := [.int a0]) (st := [.int 111, .ref (sq Y 14)]) dX8_dues_26 (c_X8_offOf hM h1) (M_obj hM) rfl mi_X8_offOf mv_X8_offOf kM_X8_101 rfl ⟨Nat.le_of_ble_eq_true rfl, Nat.le_of_ble_eq_true rfl⟩ rfl (Nat.le_of_ble_eq_true rfl) ?_
    refine g_iast Γ (pc := 29) dX8_dues_29 (M_14 hM) hf (fun m9 hf => ?_)
    refine g_aload_n Γ (pc := 30) 2 dX8_dues_30 rfl rfl ?_
    refine g_get Γ (pc := 31) (v := .ref (sq Y 14)) dX8_dues_31 (M_obj hM) fr_X8_49 rfl ?_
    refine g_bipush Γ (pc := 34) (v := 102) dX8_dues_34 rfl ?_
    refine g_aload_n Γ (pc := 36) 2 dX8_dues_36 rfl rfl ?_
    refine g_iload_n Γ (pc := 37) 3 dX8_dues_37 rfl rfl ?_
    refine g_iconst Γ (pc := 38) (v := 4) dX8_dues_38 rfl ?_
    obtain ⟨v10, h1, hf⟩ := bn1_i hf
    refine g_callVI Γ (pc := 39) (as := [.int a0, .int 4]) (st := [.int 102, .ref (sq Y 14)]) dX8_dues_39 (c_X8_of hM h1) (M_obj hM) rfl mi_X8_of mv_X8_of kM_X8_83 rfl ⟨Nat.le_of_ble_eq_true rfl, Nat.le_of_ble_eq_true rfl⟩ rfl (Nat.le_of_ble_eq_true rfl) ?_
    obtain ⟨v11, h1, hf⟩ := bn1_i hf
    refine g_callSI Γ (pc := 42) (as := [.int v10]) (st := [.int 102, .ref (sq Y 14)]) dX8_dues_42 (c_X8_manyIn h1) mi_X8_manyIn ms_X8_manyIn kM_X8_87 rfl ⟨Nat.le_of_ble_eq_true rfl, Nat.le_of_ble_eq_true rfl⟩ rfl (Nat.le_of_ble_eq_true rfl) ?_
    refine g_iast Γ (pc := 45) dX8_dues_45 (M_14 hM) hf (fun m12 hf => ?_)
    refine g_aload_n Γ (pc := 46) 2 dX8_dues_46 rfl rfl ?_
    refine g_get Γ (pc := 47) (v := .ref (sq Y 14)) dX8_dues_47 (M_obj hM) fr_X8_49 rfl ?_
    refine g_bipush Γ (pc := 50) (v := 109) dX8_dues_50 rfl ?_
    refine g_aload_n Γ (pc := 52) 2 dX8_dues_52 rfl rfl ?_
    refine g_iload_n Γ (pc := 53) 3 dX8_dues_53 rfl rfl ?_
    refine g_iconst Γ (pc := 54) (v := 1) dX8_dues_54 rfl ?_
    obtain ⟨v13, h1, hf⟩ := bn1_i hf
    refine g_callVI Γ (pc := 55) (as := [.int a0, .int 1]) (st := [.int 109, .ref (sq Y 14)]) dX8_dues_55 (c_X8_of hM h1) (M_obj hM) rfl mi_X8_of mv_X8_of kM_X8_83 rfl ⟨Nat.le_of_ble_eq_true rfl, Nat.le_of_ble_eq_true rfl⟩ rfl (Nat.le_of_ble_eq_true rfl) ?_
    refine g_iast Γ (pc := 58) dX8_dues_58 (M_14 hM) hf (fun m14 hf => ?_)
    refine g_aload_n Γ (pc := 59) 2 dX8_dues_59 rfl rfl ?_
    refine g_iload_n Γ (pc := 60) 0 dX8_dues_60 rfl rfl ?_
    obtain ⟨v15, m16, h1, hf⟩ := bn2_i hf
    refine g_callVI Γ (pc := 61) (as := [.int v2]) (st := []) dX8_dues_61 (c_X8_worked hM h1) (M_obj hM) rfl mi_X8_worked mv_X8_worked kM_X8_107 rfl ⟨Nat.le_of_ble_eq_true rfl, Nat.le_of_ble_eq_true rfl⟩ rfl (Nat.le_of_ble_eq_true rfl) ?_
    refine g_iconst Γ (pc := 64) (v := 0) dX8_dues_64 rfl ?_
    refine g_sipush Γ (pc := 65) (v := 999) dX8_dues_65 rfl ?_
    obtain ⟨v17, h1, hf⟩ := bn1_i hf
    refine g_callSI Γ (pc := 68) (as := [.int v15, .int 0, .int 999]) (st := []) dX8_dues_68 (c_X8_within h1) mi_X8_within ms_X8_within kM_X8_110 rfl ⟨Nat.le_of_ble_eq_true rfl, Nat.le_of_ble_eq_true rfl⟩ rfl (Nat.le_of_ble_eq_true rfl) ?_
    refine g_istore_n Γ (pc := 71) (lv' := [(2, .int v17), (3, .int v2), (0, .ref (sq Y 0)), (1, .int a0)]) dX8_dues_71 rfl (by decide) rfl ?_
    refine g_sub Γ [2, 3, 0] rfl ?_
    exact J_72 v17 m16 hf
def f_X8_asks (a0 : Int32) (μ : Mem) : Option (Int32) :=
  bn1 (f_X8_of a0 2 μ) fun v1 =>
  bn1 (f_X8_of a0 0 μ) fun v2 =>
  if v2 = 1 then
    some (v1 + 5)
  else
    if v2 = 2 then
      bn1 (dvM v1 2) fun v3 =>
      some v3
    else
      if v2 = 3 then
        some (2 * (v1 + 5))
      else
        if v2 = 4 then
          some 0
        else
          some v1
set_option maxRecDepth 100000 in
set_option maxHeartbeats 4000000 in
theorem c_X8_asks {Y : SYS} (hM : IsM Y) {a0 : Int32} {μ : Mem} {x : Int32} (hf : f_X8_asks a0 μ = some x) : KC Y yX8_asks cX8_asks 3 (some .int) 1 [.ref (sq Y 0), .int a0] μ (some (.int x)) μ := by
  refine KC.I RX8 [(0, .ref (sq Y 0)), (1, .int a0)] (by decide) rfl (Nat.le_of_ble_eq_true rfl) rfl (fun G Γ ret => ?_)
  unfold f_X8_asks at hf
  refine g_aload_n Γ (pc := 0) 0 dX8_asks_0 rfl rfl ?_
  refine g_iload_n Γ (pc := 1) 1 dX8_asks_1 rfl rfl ?_
  refine g_iconst Γ (pc := 2) (v := 2) dX8_asks_2 rfl ?_
  obtain ⟨v1, h1, hf⟩ := bn1_i hf
  refine g_callVI Γ (pc := 3) (as := [.int a0, .int 2]) (st := []) dX8_asks_3 (c_X8_of hM h1) (M_obj hM) rfl mi_X8_of mv_X8_of kM_X8_83 rfl ⟨Nat.le_of_ble_eq_true rfl, Nat.le_of_ble_eq_true rfl⟩ rfl (Nat.le_of_ble_eq_true rfl) ?_
  refine g_istore_n Γ (pc := 6) (lv' := [(2, .int v1), (0, .ref (sq Y 0)), (1, .int a0)]) dX8_asks_6 rfl (by decide) rfl ?_
  refine g_aload_n Γ (pc := 7) 1 dX8_asks_7 rfl rfl ?_
  refine g_iload_n Γ (pc := 8) 2 dX8_asks_8 rfl rfl ?_
  refine g_iconst Γ (pc := 9) (v := 0) dX8_asks_9 rfl ?_
  obtain ⟨v2, h1, hf⟩ := bn1_i hf
  refine g_callVI Γ (pc := 10) (as := [.int a0, .int 0]) (st := []) dX8_asks_10 (c_X8_of hM h1) (M_obj hM) rfl mi_X8_of mv_X8_of kM_X8_83 rfl ⟨Nat.le_of_ble_eq_true rfl, Nat.le_of_ble_eq_true rfl⟩ rfl (Nat.le_of_ble_eq_true rfl) ?_
  by_cases h13_0 : v2 = 1
  · replace hf := ite_t h13_0 hf
    refine g_tin Γ (pc := 13) (tgt := 44) 1 dX8_asks_13 h13_0 (by decide) (by decide) rfl rfl ?_
    refine g_iload_n Γ (pc := 44) 0 dX8_asks_44 rfl rfl ?_
    refine g_iconst Γ (pc := 45) (v := 5) dX8_asks_45 rfl ?_
    refine g_iadd Γ (pc := 46) dX8_asks_46 ?_
    exact rIr ret dX8_asks_47 hf
  · replace hf := ite_f h13_0 hf
    by_cases h13_1 : v2 = 2
    · replace hf := ite_t h13_1 hf
      refine g_tin Γ (pc := 13) (tgt := 48) 2 dX8_asks_13 h13_1 (by decide) (by decide) rfl rfl ?_
      refine g_iload_n Γ (pc := 48) 0 dX8_asks_48 rfl rfl ?_
      refine g_iconst Γ (pc := 49) (v := 2) dX8_asks_49 rfl ?_
      refine g_idiv Γ (pc := 50) dX8_asks_50 hf (fun v3 hf => ?_)
      exact rIr ret dX8_asks_51 hf
    · replace hf := ite_f h13_1 hf
      by_cases h13_2 : v2 = 3
      · replace hf := ite_t h13_2 hf
        refine g_tin Γ (pc := 13) (tgt := 52) 3 dX8_asks_13 h13_2 (by decide) (by decide) rfl rfl ?_
        refine g_iconst Γ (pc := 52) (v := 2) dX8_asks_52 rfl ?_
        refine g_iload_n Γ (pc := 53) 0 dX8_asks_53 rfl rfl ?_
        refine g_iconst Γ (pc := 54) (v := 5) dX8_asks_54 rfl ?_
        refine g_iadd Γ (pc := 55) dX8_asks_55 ?_
        refine g_imul Γ (pc := 56) dX8_asks_56 ?_
        exact rIr ret dX8_asks_57 hf
      · replace hf := ite_f h13_2 hf
        by_cases h13_3 : v2 = 4
        · replace hf := ite_t h13_3 hf
          refine g_tin Γ (pc := 13) (tgt := 58) 4 dX8_asks_13 h13_3 (by decide) (by decide) rfl rfl ?_
          refine g_iconst Γ (pc := 58) (v := 0) dX8_asks_58 rfl ?_
          exact rIr ret dX8_asks_59 hf
        · replace hf := ite_f h13_3 hf
          refine g_tableOut Γ (pc := 13) (tgt := 60) dX8_asks_13 (by have e0 := ne_ti (k := 1) rfl h13_0; have e1 := ne_ti (k := 2) rfl h13_1; have e2 := ne_ti (k := 3) rfl h13_2; have e3 := ne_ti (k := 4) rfl h13_3; omega) rfl ?_
          refine g_iload_n Γ (pc := 60) 0 dX8_asks_60 rfl rfl ?_
          exact rIr ret dX8_asks_61 hf
def f_X8_worth (a0 : Int32) (μ : Mem) : Option (Int32) :=
  bn1 (f_X8_of a0 2 μ) fun v1 =>
  bn1 (f_X8_of a0 0 μ) fun v2 =>
  if v2 = 1 then
    some (v1 + 9)
  else
    if v2 = 2 then
      some (99 - v1)
    else
      if v2 = 3 then
        some (2 * (v1 + 9))
      else
        if v2 = 4 then
          some (93 - v1)
        else
          if v2 = 5 then
            some 2
          else
            some v1
set_option maxRecDepth 100000 in
set_option maxHeartbeats 4000000 in
theorem c_X8_worth {Y : SYS} (hM : IsM Y) {a0 : Int32} {μ : Mem} {x : Int32} (hf : f_X8_worth a0 μ = some x) : KC Y yX8_worth cX8_worth 3 (some .int) 1 [.ref (sq Y 0), .int a0] μ (some (.int x)) μ := by
  refine KC.I RX8 [(0, .ref (sq Y 0)), (1, .int a0)] (by decide) rfl (Nat.le_of_ble_eq_true rfl) rfl (fun G Γ ret => ?_)
  unfold f_X8_worth at hf
  refine g_aload_n Γ (pc := 0) 0 dX8_worth_0 rfl rfl ?_
  refine g_iload_n Γ (pc := 1) 1 dX8_worth_1 rfl rfl ?_
  refine g_iconst Γ (pc := 2) (v := 2) dX8_worth_2 rfl ?_
  obtain ⟨v1, h1, hf⟩ := bn1_i hf
  refine g_callVI Γ (pc := 3) (as := [.int a0, .int 2]) (st := []) dX8_worth_3 (c_X8_of hM h1) (M_obj hM) rfl mi_X8_of mv_X8_of kM_X8_83 rfl ⟨Nat.le_of_ble_eq_true rfl, Nat.le_of_ble_eq_true rfl⟩ rfl (Nat.le_of_ble_eq_true rfl) ?_
  refine g_istore_n Γ (pc := 6) (lv' := [(2, .int v1), (0, .ref (sq Y 0)), (1, .int a0)]) dX8_worth_6 rfl (by decide) rfl ?_
  refine g_aload_n Γ (pc := 7) 1 dX8_worth_7 rfl rfl ?_
  refine g_iload_n Γ (pc := 8) 2 dX8_worth_8 rfl rfl ?_
  refine g_iconst Γ (pc := 9) (v := 0) dX8_worth_9 rfl ?_
  obtain ⟨v2, h1, hf⟩ := bn1_i hf
  refine g_callVI Γ (pc := 10) (as := [.int a0, .int 0]) (st := []) dX8_worth_10 (c_X8_of hM h1) (M_obj hM) rfl mi_X8_of mv_X8_of kM_X8_83 rfl ⟨Nat.le_of_ble_eq_true rfl, Nat.le_of_ble_eq_true rfl⟩ rfl (Nat.le_of_ble_eq_true rfl) ?_
  by_cases h13_0 : v2 = 1
  · replace hf := ite_t h13_0 hf
    refine g_tin Γ (pc := 13) (tgt := 48) 1 dX8_worth_13 h13_0 (by decide) (by decide) rfl rfl ?_
    refine g_iload_n Γ (pc := 48) 0 dX8_worth_48 rfl rfl ?_
    refine g_bipush Γ (pc := 49) (v := 9) dX8_worth_49 rfl ?_
    refine g_iadd Γ (pc := 51) dX8_worth_51 ?_
    exact rIr ret dX8_worth_52 hf
  · replace hf := ite_f h13_0 hf
    by_cases h13_1 : v2 = 2
    · replace hf := ite_t h13_1 hf
      refine g_tin Γ (pc := 13) (tgt := 53) 2 dX8_worth_13 h13_1 (by decide) (by decide) rfl rfl ?_
      refine g_bipush Γ (pc := 53) (v := 99) dX8_worth_53 rfl ?_
      refine g_iload_n Γ (pc := 55) 0 dX8_worth_55 rfl rfl ?_
      refine g_isub Γ (pc := 56) dX8_worth_56 ?_
      exact rIr ret dX8_worth_57 hf
    · replace hf := ite_f h13_1 hf
      by_cases h13_2 : v2 = 3
      · replace hf := ite_t h13_2 hf
        refine g_tin Γ (pc := 13) (tgt := 58) 3 dX8_worth_13 h13_2 (by decide) (by decide) rfl rfl ?_
        refine g_iconst Γ (pc := 58) (v := 2) dX8_worth_58 rfl ?_
        refine g_iload_n Γ (pc := 59) 0 dX8_worth_59 rfl rfl ?_
        refine g_bipush Γ (pc := 60) (v := 9) dX8_worth_60 rfl ?_
        refine g_iadd Γ (pc := 62) dX8_worth_62 ?_
        refine g_imul Γ (pc := 63) dX8_worth_63 ?_
        exact rIr ret dX8_worth_64 hf
      · replace hf := ite_f h13_2 hf
        by_cases h13_3 : v2 = 4
        · replace hf := ite_t h13_3 hf
          refine g_tin Γ (pc := 13) (tgt := 65) 4 dX8_worth_13 h13_3 (by decide) (by decide) rfl rfl ?_
          refine g_bipush Γ (pc := 65) (v := 93) dX8_worth_65 rfl ?_
          refine g_iload_n Γ (pc := 67) 0 dX8_worth_67 rfl rfl ?_
          refine g_isub Γ (pc := 68) dX8_worth_68 ?_
          exact rIr ret dX8_worth_69 hf
        · replace hf := ite_f h13_3 hf
          by_cases h13_4 : v2 = 5
          · replace hf := ite_t h13_4 hf
            refine g_tin Γ (pc := 13) (tgt := 70) 5 dX8_worth_13 h13_4 (by decide) (by decide) rfl rfl ?_
            refine g_iconst Γ (pc := 70) (v := 2) dX8_worth_70 rfl ?_
            exact rIr ret dX8_worth_71 hf
          · replace hf := ite_f h13_4 hf
            refine g_tableOut Γ (pc := 13) (tgt := 72) dX8_worth_13 (by have e0 := ne_ti (k := 1) rfl h13_0; have e1 := ne_ti (k := 2) rfl h13_1; have e2 := ne_ti (k := 3) rfl h13_2; have e3 := ne_ti (k := 4) rfl h13_3; have e4 := ne_ti (k := 5) rfl h13_4; omega) rfl ?_
            refine g_iload_n Γ (pc := 72) 0 dX8_worth_72 rfl rfl ?_
            exact rIr ret dX8_worth_73 hf
def f_X8_told (a0 : Int32) (a1 : Int32) (μ : Mem) : Option (Int32 × Mem) :=
  bn1 (f_X8_isOne a0 μ) fun v1 =>
  if v1 = 0 then
    some ((-1000000001), μ)
  else
    if a1 = 0 then
      bn1 (f_X8_of a0 a1 μ) fun v11 =>
      some (v11, μ)
    else
      if a1 = 1 then
        bn1 (f_X8_of a0 a1 μ) fun v10 =>
        some (v10, μ)
      else
        if a1 = 2 then
          bn1 (f_X8_of a0 a1 μ) fun v9 =>
          some (v9, μ)
        else
          if a1 = 3 then
            bn1 (f_X8_of a0 a1 μ) fun v8 =>
            some (v8, μ)
          else
            if a1 = 4 then
              bn1 (f_X8_of a0 a1 μ) fun v7 =>
              some (v7, μ)
            else
              if a1 = 5 then
                bn1 (f_X8_offOf a0 μ) fun v6 =>
                some (v6, μ)
              else
                if a1 = 6 then
                  bn2 (f_X8_dues a0 μ) fun v4 m5 =>
                  some (v4, m5)
                else
                  if a1 = 7 then
                    bn1 (f_X8_asks a0 μ) fun v3 =>
                    some (v3, μ)
                  else
                    if a1 = 8 then
                      bn1 (f_X8_worth a0 μ) fun v2 =>
                      some (v2, μ)
                    else
                      some ((-1000000001), μ)
set_option maxRecDepth 100000 in
set_option maxHeartbeats 4000000 in
theorem c_X8_told {Y : SYS} (hM : IsM Y) {a0 : Int32} {a1 : Int32} {μ : Mem} {x : Int32} {m : Mem} (hf : f_X8_told a0 a1 μ = some (x, m)) : KC Y yX8_told cX8_told 3 (some .int) 4 [.ref (sq Y 0), .int a0, .int a1] μ (some (.int x)) m := by
  refine KC.I RX8 [(0, .ref (sq Y 0)), (1, .int a0), (2, .int a1)] (by decide) rfl (Nat.le_of_ble_eq_true rfl) rfl (fun G Γ ret => ?_)
  unfold f_X8_told at hf
  refine g_aload_n Γ (pc := 0) 0 dX8_told_0 rfl rfl ?_
  refine g_iload_n Γ (pc := 1) 1 dX8_told_1 rfl rfl ?_
  obtain ⟨v1, h1, hf⟩ := bn1_i hf
  refine g_callVI Γ (pc := 2) (as := [.int a0]) (st := []) dX8_told_2 (c_X8_isOne hM h1) (M_obj hM) rfl mi_X8_isOne mv_X8_isOne kM_X8_114 rfl ⟨Nat.le_of_ble_eq_true rfl, Nat.le_of_ble_eq_true rfl⟩ rfl (Nat.le_of_ble_eq_true rfl) ?_
  refine g_if_ne Γ (pc := 5) (tgt := 11) dX8_told_5 rfl hf (fun hf => ?_) (fun hf => ?_)
  · refine g_iload_n Γ (pc := 11) 2 dX8_told_11 rfl rfl ?_
    by_cases h12_0 : a1 = 0
    · replace hf := ite_t h12_0 hf
      refine g_tin Γ (pc := 12) (tgt := 64) 0 dX8_told_12 h12_0 (by decide) (by decide) rfl rfl ?_
      refine g_aload_n Γ (pc := 64) 0 dX8_told_64 rfl rfl ?_
      refine g_iload_n Γ (pc := 65) 1 dX8_told_65 rfl rfl ?_
      refine g_iload_n Γ (pc := 66) 2 dX8_told_66 rfl rfl ?_
      obtain ⟨v11, h1, hf⟩ := bn1_i hf
      refine g_callVI Γ (pc := 67) (as := [.int a0, .int a1]) (st := []) dX8_told_67 (c_X8_of hM h1) (M_obj hM) rfl mi_X8_of mv_X8_of kM_X8_83 rfl ⟨Nat.le_of_ble_eq_true rfl, Nat.le_of_ble_eq_true rfl⟩ rfl (Nat.le_of_ble_eq_true rfl) ?_
      exact rI ret dX8_told_70 hf
    · replace hf := ite_f h12_0 hf
      by_cases h12_1 : a1 = 1
      · replace hf := ite_t h12_1 hf
        refine g_tin Γ (pc := 12) (tgt := 64) 1 dX8_told_12 h12_1 (by decide) (by decide) rfl rfl ?_
        refine g_aload_n Γ (pc := 64) 0 dX8_told_64 rfl rfl ?_
        refine g_iload_n Γ (pc := 65) 1 dX8_told_65 rfl rfl ?_
        refine g_iload_n Γ (pc := 66) 2 dX8_told_66 rfl rfl ?_
        obtain ⟨v10, h1, hf⟩ := bn1_i hf
        refine g_callVI Γ (pc := 67) (as := [.int a0, .int a1]) (st := []) dX8_told_67 (c_X8_of hM h1) (M_obj hM) rfl mi_X8_of mv_X8_of kM_X8_83 rfl ⟨Nat.le_of_ble_eq_true rfl, Nat.le_of_ble_eq_true rfl⟩ rfl (Nat.le_of_ble_eq_true rfl) ?_
        exact rI ret dX8_told_70 hf
      · replace hf := ite_f h12_1 hf
        by_cases h12_2 : a1 = 2
        · replace hf := ite_t h12_2 hf
          refine g_tin Γ (pc := 12) (tgt := 64) 2 dX8_told_12 h12_2 (by decide) (by decide) rfl rfl ?_
          refine g_aload_n Γ (pc := 64) 0 dX8_told_64 rfl rfl ?_
          refine g_iload_n Γ (pc := 65) 1 dX8_told_65 rfl rfl ?_
          refine g_iload_n Γ (pc := 66) 2 dX8_told_66 rfl rfl ?_
          obtain ⟨v9, h1, hf⟩ := bn1_i hf
          refine g_callVI Γ (pc := 67) (as := [.int a0, .int a1]) (st := []) dX8_told_67 (c_X8_of hM h1) (M_obj hM) rfl mi_X8_of mv_X8_of kM_X8_83 rfl ⟨Nat.le_of_ble_eq_true rfl, Nat.le_of_ble_eq_true rfl⟩ rfl (Nat.le_of_ble_eq_true rfl) ?_
          exact rI ret dX8_told_70 hf
        · replace hf := ite_f h12_2 hf
          by_cases h12_3 : a1 = 3
          · replace hf := ite_t h12_3 hf
            refine g_tin Γ (pc := 12) (tgt := 64) 3 dX8_told_12 h12_3 (by decide) (by decide) rfl rfl ?_
            refine g_aload_n Γ (pc := 64) 0 dX8_told_64 rfl rfl ?_
            refine g_iload_n Γ (pc := 65) 1 dX8_told_65 rfl rfl ?_
            refine g_iload_n Γ (pc := 66) 2 dX8_told_66 rfl rfl ?_
            obtain ⟨v8, h1, hf⟩ := bn1_i hf
            refine g_callVI Γ (pc := 67) (as := [.int a0, .int a1]) (st := []) dX8_told_67 (c_X8_of hM h1) (M_obj hM) rfl mi_X8_of mv_X8_of kM_X8_83 rfl ⟨Nat.le_of_ble_eq_true rfl, Nat.le_of_ble_eq_true rfl⟩ rfl (Nat.le_of_ble_eq_true rfl) ?_
            exact rI ret dX8_told_70 hf
          · replace hf := ite_f h12_3 hf
            by_cases h12_4 : a1 = 4
            · replace hf := ite_t h12_4 hf
              refine g_tin Γ (pc := 12) (tgt := 64) 4 dX8_told_12 h12_4 (by decide) (by decide) rfl rfl ?_
              refine g_aload_n Γ (pc := 64) 0 dX8_told_64 rfl rfl ?_
              refine g_iload_n Γ (pc := 65) 1 dX8_told_65 rfl rfl ?_
              refine g_iload_n Γ (pc := 66) 2 dX8_told_66 rfl rfl ?_
              obtain ⟨v7, h1, hf⟩ := bn1_i hf
              refine g_callVI Γ (pc := 67) (as := [.int a0, .int a1]) (st := []) dX8_told_67 (c_X8_of hM h1) (M_obj hM) rfl mi_X8_of mv_X8_of kM_X8_83 rfl ⟨Nat.le_of_ble_eq_true rfl, Nat.le_of_ble_eq_true rfl⟩ rfl (Nat.le_of_ble_eq_true rfl) ?_
              exact rI ret dX8_told_70 hf
            · replace hf := ite_f h12_4 hf
              by_cases h12_5 : a1 = 5
              · replace hf := ite_t h12_5 hf
                refine g_tin Γ (pc := 12) (tgt := 71) 5 dX8_told_12 h12_5 (by decide) (by decide) rfl rfl ?_
                refine g_aload_n Γ (pc := 71) 0 dX8_told_71 rfl rfl ?_
                refine g_iload_n Γ (pc := 72) 1 dX8_told_72 rfl rfl ?_
                obtain ⟨v6, h1, hf⟩ := bn1_i hf
                refine g_callVI Γ (pc := 73) (as := [.int a0]) (st := []) dX8_told_73 (c_X8_offOf hM h1) (M_obj hM) rfl mi_X8_offOf mv_X8_offOf kM_X8_101 rfl ⟨Nat.le_of_ble_eq_true rfl, Nat.le_of_ble_eq_true rfl⟩ rfl (Nat.le_of_ble_eq_true rfl) ?_
                exact rI ret dX8_told_76 hf
              · replace hf := ite_f h12_5 hf
                by_cases h12_6 : a1 = 6
                · replace hf := ite_t h12_6 hf
                  refine g_tin Γ (pc := 12) (tgt := 77) 6 dX8_told_12 h12_6 (by decide) (by decide) rfl rfl ?_
                  refine g_aload_n Γ (pc := 77) 0 dX8_told_77 rfl rfl ?_
                  refine g_iload_n Γ (pc := 78) 1 dX8_told_78 rfl rfl ?_
                  obtain ⟨v4, m5, h1, hf⟩ := bn2_i hf
                  refine g_callVI Γ (pc := 79) (as := [.int a0]) (st := []) dX8_told_79 (c_X8_dues hM h1) (M_obj hM) rfl mi_X8_dues mv_X8_dues kM_X8_118 rfl ⟨Nat.le_of_ble_eq_true rfl, Nat.le_of_ble_eq_true rfl⟩ rfl (Nat.le_of_ble_eq_true rfl) ?_
                  exact rI ret dX8_told_82 hf
                · replace hf := ite_f h12_6 hf
                  by_cases h12_7 : a1 = 7
                  · replace hf := ite_t h12_7 hf
                    refine g_tin Γ (pc := 12) (tgt := 83) 7 dX8_told_12 h12_7 (by decide) (by decide) rfl rfl ?_
                    refine g_aload_n Γ (pc := 83) 0 dX8_told_83 rfl rfl ?_
                    refine g_iload_n Γ (pc := 84) 1 dX8_told_84 rfl rfl ?_
                    obtain ⟨v3, h1, hf⟩ := bn1_i hf
                    refine g_callVI Γ (pc := 85) (as := [.int a0]) (st := []) dX8_told_85 (c_X8_asks hM h1) (M_obj hM) rfl mi_X8_asks mv_X8_asks kM_X8_121 rfl ⟨Nat.le_of_ble_eq_true rfl, Nat.le_of_ble_eq_true rfl⟩ rfl (Nat.le_of_ble_eq_true rfl) ?_
                    exact rI ret dX8_told_88 hf
                  · replace hf := ite_f h12_7 hf
                    by_cases h12_8 : a1 = 8
                    · replace hf := ite_t h12_8 hf
                      refine g_tin Γ (pc := 12) (tgt := 89) 8 dX8_told_12 h12_8 (by decide) (by decide) rfl rfl ?_
                      refine g_aload_n Γ (pc := 89) 0 dX8_told_89 rfl rfl ?_
                      refine g_iload_n Γ (pc := 90) 1 dX8_told_90 rfl rfl ?_
                      obtain ⟨v2, h1, hf⟩ := bn1_i hf
                      refine g_callVI Γ (pc := 91) (as := [.int a0]) (st := []) dX8_told_91 (c_X8_worth hM h1) (M_obj hM) rfl mi_X8_worth mv_X8_worth kM_X8_124 rfl ⟨Nat.le_of_ble_eq_true rfl, Nat.le_of_ble_eq_true rfl⟩ rfl (Nat.le_of_ble_eq_true rfl) ?_
                      exact rI ret dX8_told_94 hf
                    · replace hf := ite_f h12_8 hf
                      refine g_tableOut Γ (pc := 12) (tgt := 95) dX8_told_12 (by have e0 := ne_ti (k := 0) rfl h12_0; have e1 := ne_ti (k := 1) rfl h12_1; have e2 := ne_ti (k := 2) rfl h12_2; have e3 := ne_ti (k := 3) rfl h12_3; have e4 := ne_ti (k := 4) rfl h12_4; have e5 := ne_ti (k := 5) rfl h12_5; have e6 := ne_ti (k := 6) rfl h12_6; have e7 := ne_ti (k := 7) rfl h12_7; have e8 := ne_ti (k := 8) rfl h12_8; omega) rfl ?_
                      refine g_ldc Γ (pc := 95) dX8_told_95 kK_X8_78 ?_
                      exact rI ret dX8_told_97 hf
  · refine g_ldc Γ (pc := 8) dX8_told_8 kK_X8_78 ?_
    exact rI ret dX8_told_10 hf
def f_X8_isOf_J19 (a0 : Int32) (a1 : Int32) : Option (Int32) :=
  if a1 = 2 then
    if a0 = 4 then
      some 1
    else
      some 0
  else
    some 0
def f_X8_isOf (a0 : Int32) (a1 : Int32) : Option (Int32) :=
  if a0 = a1 then
    some 1
  else
    if a1 = 0 then
      some 1
    else
      if a1 = 1 then
        if a0 = 3 then
          some 1
        else
          f_X8_isOf_J19 a0 a1
      else
        f_X8_isOf_J19 a0 a1
set_option maxRecDepth 100000 in
set_option maxHeartbeats 4000000 in
theorem c_X8_isOf {Y : SYS} {a0 : Int32} {a1 : Int32} {μ : Mem} {x : Int32} (hf : f_X8_isOf a0 a1 = some x) : KC Y yX8_isOf cX8_isOf 2 (some .boolean) 0 [.int a0, .int a1] μ (some (.int x)) μ := by
  refine KC.Z RX8 [(0, .int a0), (1, .int a1)] (by decide) rfl (Nat.le_of_ble_eq_true rfl) rfl (fun G Γ ret => ?_)
  unfold f_X8_isOf at hf
  refine g_iload_n Γ (pc := 0) 0 dX8_isOf_0 rfl rfl ?_
  refine g_iload_n Γ (pc := 1) 1 dX8_isOf_1 rfl rfl ?_
  refine g_icmp_eq Γ (pc := 2) (tgt := 29) dX8_isOf_2 rfl hf (fun hf => ?_) (fun hf => ?_)
  · refine g_iconst Γ (pc := 29) (v := 1) dX8_isOf_29 rfl ?_
    refine g_goto Γ (pc := 30) (tgt := 34) dX8_isOf_30 rfl ?_
    exact rZkr ret dX8_isOf_34 (Or.inr rfl) hf
  · refine g_iload_n Γ (pc := 5) 1 dX8_isOf_5 rfl rfl ?_
    refine g_if_eq Γ (pc := 6) (tgt := 29) dX8_isOf_6 rfl hf (fun hf => ?_) (fun hf => ?_)
    · refine g_iconst Γ (pc := 29) (v := 1) dX8_isOf_29 rfl ?_
      refine g_goto Γ (pc := 30) (tgt := 34) dX8_isOf_30 rfl ?_
      exact rZkr ret dX8_isOf_34 (Or.inr rfl) hf
    · refine g_iload_n Γ (pc := 9) 1 dX8_isOf_9 rfl rfl ?_
      refine g_iconst Γ (pc := 10) (v := 1) dX8_isOf_10 rfl ?_
      have J_19 : f_X8_isOf_J19 a0 a1 = some x → G 19 [(0, .int a0), (1, .int a1)] [] μ := by
        intro hf
        unfold f_X8_isOf_J19 at hf
        refine g_iload_n Γ (pc := 19) 1 dX8_isOf_19 rfl rfl ?_
        refine g_iconst Γ (pc := 20) (v := 2) dX8_isOf_20 rfl ?_
        refine g_icmp_ne Γ (pc := 21) (tgt := 33) dX8_isOf_21 rfl hf (fun hf => ?_) (fun hf => ?_)
        · refine g_iconst Γ (pc := 33) (v := 0) dX8_isOf_33 rfl ?_
          exact rZkr ret dX8_isOf_34 (Or.inl rfl) hf
        · refine g_iload_n Γ (pc := 24) 0 dX8_isOf_24 rfl rfl ?_
          refine g_iconst Γ (pc := 25) (v := 4) dX8_isOf_25 rfl ?_
          refine g_icmp_ne Γ (pc := 26) (tgt := 33) dX8_isOf_26 rfl hf (fun hf => ?_) (fun hf => ?_)
          · refine g_iconst Γ (pc := 33) (v := 0) dX8_isOf_33 rfl ?_
            exact rZkr ret dX8_isOf_34 (Or.inl rfl) hf
          · refine g_iconst Γ (pc := 29) (v := 1) dX8_isOf_29 rfl ?_
            refine g_goto Γ (pc := 30) (tgt := 34) dX8_isOf_30 rfl ?_
            exact rZkr ret dX8_isOf_34 (Or.inr rfl) hf
      refine g_icmp_ne Γ (pc := 11) (tgt := 19) dX8_isOf_11 rfl hf (fun hf => ?_) (fun hf => ?_)
      · refine g_sub Γ [0, 1] rfl ?_
        exact J_19 hf
      · refine g_iload_n Γ (pc := 14) 0 dX8_isOf_14 rfl rfl ?_
        refine g_iconst Γ (pc := 15) (v := 3) dX8_isOf_15 rfl ?_
        refine g_icmp_eq Γ (pc := 16) (tgt := 29) dX8_isOf_16 rfl hf (fun hf => ?_) (fun hf => ?_)
        · refine g_iconst Γ (pc := 29) (v := 1) dX8_isOf_29 rfl ?_
          refine g_goto Γ (pc := 30) (tgt := 34) dX8_isOf_30 rfl ?_
          exact rZkr ret dX8_isOf_34 (Or.inr rfl) hf
        · refine g_sub Γ [0, 1] rfl ?_
          exact J_19 hf
def f_X8_as (a0 : Int32) (a1 : Int32) (μ : Mem) : Option (Int32) :=
  bn1 (f_X8_isOne a0 μ) fun v1 =>
  if v1 = 0 then
    some (-1000000001)
  else
    bn1 (f_X8_isIn a1.toInt64 0 5) fun v2 =>
    if v2 = 0 then
      some (-1000000001)
    else
      bn1 (f_X8_of a0 0 μ) fun v3 =>
      bn1 (f_X8_isOf v3 a1) fun v4 =>
      if v4 = 0 then
        some (-1000000012)
      else
        bn1 (f_X8_of a0 2 μ) fun v5 =>
        some v5
set_option maxRecDepth 100000 in
set_option maxHeartbeats 4000000 in
theorem c_X8_as {Y : SYS} (hM : IsM Y) {a0 : Int32} {a1 : Int32} {μ : Mem} {x : Int32} (hf : f_X8_as a0 a1 μ = some x) : KC Y yX8_as cX8_as 3 (some .int) 2 [.ref (sq Y 0), .int a0, .int a1] μ (some (.int x)) μ := by
  refine KC.I RX8 [(0, .ref (sq Y 0)), (1, .int a0), (2, .int a1)] (by decide) rfl (Nat.le_of_ble_eq_true rfl) rfl (fun G Γ ret => ?_)
  unfold f_X8_as at hf
  refine g_aload_n Γ (pc := 0) 0 dX8_as_0 rfl rfl ?_
  refine g_iload_n Γ (pc := 1) 1 dX8_as_1 rfl rfl ?_
  obtain ⟨v1, h1, hf⟩ := bn1_i hf
  refine g_callVI Γ (pc := 2) (as := [.int a0]) (st := []) dX8_as_2 (c_X8_isOne hM h1) (M_obj hM) rfl mi_X8_isOne mv_X8_isOne kM_X8_114 rfl ⟨Nat.le_of_ble_eq_true rfl, Nat.le_of_ble_eq_true rfl⟩ rfl (Nat.le_of_ble_eq_true rfl) ?_
  refine g_if_eq Γ (pc := 5) (tgt := 20) dX8_as_5 rfl hf (fun hf => ?_) (fun hf => ?_)
  · refine g_ldc Γ (pc := 20) dX8_as_20 kK_X8_78 ?_
    exact rIr ret dX8_as_22 hf
  · refine g_iload_n Γ (pc := 8) 2 dX8_as_8 rfl rfl ?_
    refine g_i2l Γ (pc := 9) dX8_as_9 ?_
    refine g_lconst Γ (pc := 10) (v := 0) dX8_as_10 rfl ?_
    refine g_ldc2 Γ (pc := 11) dX8_as_11 kL_X8_74 ?_
    obtain ⟨v2, h1, hf⟩ := bn1_i hf
    refine g_callSI Γ (pc := 14) (as := [.long a1.toInt64, .long 0, .long 5]) (st := []) dX8_as_14 (c_X8_isIn h1) mi_X8_isIn ms_X8_isIn kM_X8_65 rfl ⟨Nat.le_of_ble_eq_true rfl, Nat.le_of_ble_eq_true rfl⟩ rfl (Nat.le_of_ble_eq_true rfl) ?_
    refine g_if_ne Γ (pc := 17) (tgt := 23) dX8_as_17 rfl hf (fun hf => ?_) (fun hf => ?_)
    · refine g_aload_n Γ (pc := 23) 0 dX8_as_23 rfl rfl ?_
      refine g_iload_n Γ (pc := 24) 1 dX8_as_24 rfl rfl ?_
      refine g_iconst Γ (pc := 25) (v := 0) dX8_as_25 rfl ?_
      obtain ⟨v3, h1, hf⟩ := bn1_i hf
      refine g_callVI Γ (pc := 26) (as := [.int a0, .int 0]) (st := []) dX8_as_26 (c_X8_of hM h1) (M_obj hM) rfl mi_X8_of mv_X8_of kM_X8_83 rfl ⟨Nat.le_of_ble_eq_true rfl, Nat.le_of_ble_eq_true rfl⟩ rfl (Nat.le_of_ble_eq_true rfl) ?_
      refine g_iload_n Γ (pc := 29) 2 dX8_as_29 rfl rfl ?_
      obtain ⟨v4, h1, hf⟩ := bn1_i hf
      refine g_callSI Γ (pc := 30) (as := [.int v3, .int a1]) (st := []) dX8_as_30 (c_X8_isOf h1) mi_X8_isOf ms_X8_isOf kM_X8_127 rfl ⟨Nat.le_of_ble_eq_true rfl, Nat.le_of_ble_eq_true rfl⟩ rfl (Nat.le_of_ble_eq_true rfl) ?_
      refine g_if_eq Γ (pc := 33) (tgt := 45) dX8_as_33 rfl hf (fun hf => ?_) (fun hf => ?_)
      · refine g_ldc Γ (pc := 45) dX8_as_45 kK_X8_131 ?_
        exact rIr ret dX8_as_47 hf
      · refine g_aload_n Γ (pc := 36) 0 dX8_as_36 rfl rfl ?_
        refine g_iload_n Γ (pc := 37) 1 dX8_as_37 rfl rfl ?_
        refine g_iconst Γ (pc := 38) (v := 2) dX8_as_38 rfl ?_
        obtain ⟨v5, h1, hf⟩ := bn1_i hf
        refine g_callVI Γ (pc := 39) (as := [.int a0, .int 2]) (st := []) dX8_as_39 (c_X8_of hM h1) (M_obj hM) rfl mi_X8_of mv_X8_of kM_X8_83 rfl ⟨Nat.le_of_ble_eq_true rfl, Nat.le_of_ble_eq_true rfl⟩ rfl (Nat.le_of_ble_eq_true rfl) ?_
        refine g_goto Γ (pc := 42) (tgt := 47) dX8_as_42 rfl ?_
        exact rIr ret dX8_as_47 hf
    · refine g_ldc Γ (pc := 20) dX8_as_20 kK_X8_78 ?_
      exact rIr ret dX8_as_22 hf
def f_X8_becomes (a0 : Int32) (a1 : Int32) (μ : Mem) : Option (Int32 × Mem) :=
  bn1 (ldM (μ 1) 3059 a0) fun v1 =>
  bn1 (stM μ 1 3059 a0 a1) fun m2 =>
  some (v1, m2)
set_option maxRecDepth 100000 in
set_option maxHeartbeats 4000000 in
theorem c_X8_becomes {Y : SYS} (hM : IsM Y) {a0 : Int32} {a1 : Int32} {μ : Mem} {x : Int32} {m : Mem} (hf : f_X8_becomes a0 a1 μ = some (x, m)) : KC Y yX8_becomes cX8_becomes 4 (some .int) 0 [.ref (sq Y 0), .int a0, .int a1] μ (some (.int x)) m := by
  refine KC.I RX8 [(0, .ref (sq Y 0)), (1, .int a0), (2, .int a1)] (by decide) rfl (Nat.le_of_ble_eq_true rfl) rfl (fun G Γ ret => ?_)
  unfold f_X8_becomes at hf
  refine g_aload_n Γ (pc := 0) 0 dX8_becomes_0 rfl rfl ?_
  refine g_get Γ (pc := 1) (v := .ref (sq Y 1)) dX8_becomes_1 (M_obj hM) fr_X8_7 rfl ?_
  refine g_iload_n Γ (pc := 4) 1 dX8_becomes_4 rfl rfl ?_
  refine g_iald Γ (pc := 5) dX8_becomes_5 (M_1 hM) hf (fun v1 hf => ?_)
  refine g_istore_n Γ (pc := 6) (lv' := [(3, .int v1), (0, .ref (sq Y 0)), (1, .int a0), (2, .int a1)]) dX8_becomes_6 rfl (by decide) rfl ?_
  refine g_aload_n Γ (pc := 7) 1 dX8_becomes_7 rfl rfl ?_
  refine g_get Γ (pc := 8) (v := .ref (sq Y 1)) dX8_becomes_8 (M_obj hM) fr_X8_7 rfl ?_
  refine g_iload_n Γ (pc := 11) 2 dX8_becomes_11 rfl rfl ?_
  refine g_iload_n Γ (pc := 12) 3 dX8_becomes_12 rfl rfl ?_
  refine g_iast Γ (pc := 13) dX8_becomes_13 (M_1 hM) hf (fun m2 hf => ?_)
  refine g_iload_n Γ (pc := 14) 0 dX8_becomes_14 rfl rfl ?_
  exact rI ret dX8_becomes_15 hf
def f_X8_turns (a0 : Int32) (a1 : Int32) (μ : Mem) : Option (Int32 × Mem) :=
  bn1 (f_X8_isOne a0 μ) fun v1 =>
  if v1 = 0 then
    some ((-1000000001), μ)
  else
    bn1 (f_X8_isIn a1.toInt64 0 5) fun v2 =>
    if v2 = 0 then
      some ((-1000000001), μ)
    else
      bn2 (f_X8_becomes (9 + (5 * a0)) a1 μ) fun v3 m4 =>
      some (v3, m4)
set_option maxRecDepth 100000 in
set_option maxHeartbeats 4000000 in
theorem c_X8_turns {Y : SYS} (hM : IsM Y) {a0 : Int32} {a1 : Int32} {μ : Mem} {x : Int32} {m : Mem} (hf : f_X8_turns a0 a1 μ = some (x, m)) : KC Y yX8_turns cX8_turns 3 (some .int) 2 [.ref (sq Y 0), .int a0, .int a1] μ (some (.int x)) m := by
  refine KC.I RX8 [(0, .ref (sq Y 0)), (1, .int a0), (2, .int a1)] (by decide) rfl (Nat.le_of_ble_eq_true rfl) rfl (fun G Γ ret => ?_)
  unfold f_X8_turns at hf
  refine g_aload_n Γ (pc := 0) 0 dX8_turns_0 rfl rfl ?_
  refine g_iload_n Γ (pc := 1) 1 dX8_turns_1 rfl rfl ?_
  obtain ⟨v1, h1, hf⟩ := bn1_i hf
  refine g_callVI Γ (pc := 2) (as := [.int a0]) (st := []) dX8_turns_2 (c_X8_isOne hM h1) (M_obj hM) rfl mi_X8_isOne mv_X8_isOne kM_X8_114 rfl ⟨Nat.le_of_ble_eq_true rfl, Nat.le_of_ble_eq_true rfl⟩ rfl (Nat.le_of_ble_eq_true rfl) ?_
  refine g_if_eq Γ (pc := 5) (tgt := 34) dX8_turns_5 rfl hf (fun hf => ?_) (fun hf => ?_)
  · refine g_ldc Γ (pc := 34) dX8_turns_34 kK_X8_78 ?_
    exact rI ret dX8_turns_36 hf
  · refine g_iload_n Γ (pc := 8) 2 dX8_turns_8 rfl rfl ?_
    refine g_i2l Γ (pc := 9) dX8_turns_9 ?_
    refine g_lconst Γ (pc := 10) (v := 0) dX8_turns_10 rfl ?_
    refine g_ldc2 Γ (pc := 11) dX8_turns_11 kL_X8_74 ?_
    obtain ⟨v2, h1, hf⟩ := bn1_i hf
    refine g_callSI Γ (pc := 14) (as := [.long a1.toInt64, .long 0, .long 5]) (st := []) dX8_turns_14 (c_X8_isIn h1) mi_X8_isIn ms_X8_isIn kM_X8_65 rfl ⟨Nat.le_of_ble_eq_true rfl, Nat.le_of_ble_eq_true rfl⟩ rfl (Nat.le_of_ble_eq_true rfl) ?_
    refine g_if_eq Γ (pc := 17) (tgt := 34) dX8_turns_17 rfl hf (fun hf => ?_) (fun hf => ?_)
    · refine g_ldc Γ (pc := 34) dX8_turns_34 kK_X8_78 ?_
      exact rI ret dX8_turns_36 hf
    · refine g_aload_n Γ (pc := 20) 0 dX8_turns_20 rfl rfl ?_
      refine g_bipush Γ (pc := 21) (v := 9) dX8_turns_21 rfl ?_
      refine g_iconst Γ (pc := 23) (v := 5) dX8_turns_23 rfl ?_
      refine g_iload_n Γ (pc := 24) 1 dX8_turns_24 rfl rfl ?_
      refine g_imul Γ (pc := 25) dX8_turns_25 ?_
      refine g_iadd Γ (pc := 26) dX8_turns_26 ?_
      refine g_iload_n Γ (pc := 27) 2 dX8_turns_27 rfl rfl ?_
      obtain ⟨v3, m4, h1, hf⟩ := bn2_i hf
      refine g_callVI Γ (pc := 28) (as := [.int (9 + (5 * a0)), .int a1]) (st := []) dX8_turns_28 (c_X8_becomes hM h1) (M_obj hM) rfl mi_X8_becomes mv_X8_becomes kM_X8_132 rfl ⟨Nat.le_of_ble_eq_true rfl, Nat.le_of_ble_eq_true rfl⟩ rfl (Nat.le_of_ble_eq_true rfl) ?_
      refine g_goto Γ (pc := 31) (tgt := 36) dX8_turns_31 rfl ?_
      exact rI ret dX8_turns_36 hf
def f_X8_set_J57 (a0 : Int32) (a1 : Int32) (a2 : Int32) (μ : Mem) (s3 : Int64) (s4 : Int64) : Option (Int32 × Mem) :=
  bn1 (f_X8_isIn a2.toInt64 s3 s4) fun v5 =>
  if v5 = 0 then
    some ((-1000000001), μ)
  else
    bn2 (f_X8_becomes ((9 + (5 * a0)) + a1) a2 μ) fun v6 m7 =>
    some (v6, m7)
def f_X8_set_J34 (a0 : Int32) (a1 : Int32) (a2 : Int32) (μ : Mem) (s3 : Int64) : Option (Int32 × Mem) :=
  if a1 = 1 then
    f_X8_set_J57 a0 a1 a2 μ s3 1
  else
    if a1 = 2 then
      f_X8_set_J57 a0 a1 a2 μ s3 99
    else
      f_X8_set_J57 a0 a1 a2 μ s3 9999
def f_X8_set (a0 : Int32) (a1 : Int32) (a2 : Int32) (μ : Mem) : Option (Int32 × Mem) :=
  bn1 (f_X8_isOne a0 μ) fun v1 =>
  if v1 = 0 then
    some ((-1000000001), μ)
  else
    bn1 (f_X8_isIn a1.toInt64 1 3) fun v2 =>
    if v2 = 0 then
      some ((-1000000001), μ)
    else
      if a1 = 3 then
        f_X8_set_J34 a0 a1 a2 μ (-9999)
      else
        f_X8_set_J34 a0 a1 a2 μ 0
set_option maxRecDepth 100000 in
set_option maxHeartbeats 4000000 in
theorem c_X8_set {Y : SYS} (hM : IsM Y) {a0 : Int32} {a1 : Int32} {a2 : Int32} {μ : Mem} {x : Int32} {m : Mem} (hf : f_X8_set a0 a1 a2 μ = some (x, m)) : KC Y yX8_set cX8_set 4 (some .int) 2 [.ref (sq Y 0), .int a0, .int a1, .int a2] μ (some (.int x)) m := by
  refine KC.I RX8 [(0, .ref (sq Y 0)), (1, .int a0), (2, .int a1), (3, .int a2)] (by decide) rfl (Nat.le_of_ble_eq_true rfl) rfl (fun G Γ ret => ?_)
  unfold f_X8_set at hf
  refine g_aload_n Γ (pc := 0) 0 dX8_set_0 rfl rfl ?_
  refine g_iload_n Γ (pc := 1) 1 dX8_set_1 rfl rfl ?_
  obtain ⟨v1, h1, hf⟩ := bn1_i hf
  refine g_callVI Γ (pc := 2) (as := [.int a0]) (st := []) dX8_set_2 (c_X8_isOne hM h1) (M_obj hM) rfl mi_X8_isOne mv_X8_isOne kM_X8_114 rfl ⟨Nat.le_of_ble_eq_true rfl, Nat.le_of_ble_eq_true rfl⟩ rfl (Nat.le_of_ble_eq_true rfl) ?_
  refine g_if_eq Γ (pc := 5) (tgt := 63) dX8_set_5 rfl hf (fun hf => ?_) (fun hf => ?_)
  · refine g_ldc Γ (pc := 63) dX8_set_63 kK_X8_78 ?_
    exact rI ret dX8_set_65 hf
  · refine g_iload_n Γ (pc := 8) 2 dX8_set_8 rfl rfl ?_
    refine g_i2l Γ (pc := 9) dX8_set_9 ?_
    refine g_lconst Γ (pc := 10) (v := 1) dX8_set_10 rfl ?_
    refine g_ldc2 Γ (pc := 11) dX8_set_11 kL_X8_135 ?_
    obtain ⟨v2, h1, hf⟩ := bn1_i hf
    refine g_callSI Γ (pc := 14) (as := [.long a1.toInt64, .long 1, .long 3]) (st := []) dX8_set_14 (c_X8_isIn h1) mi_X8_isIn ms_X8_isIn kM_X8_65 rfl ⟨Nat.le_of_ble_eq_true rfl, Nat.le_of_ble_eq_true rfl⟩ rfl (Nat.le_of_ble_eq_true rfl) ?_
    refine g_if_eq Γ (pc := 17) (tgt := 63) dX8_set_17 rfl hf (fun hf => ?_) (fun hf => ?_)
    · refine g_ldc Γ (pc := 63) dX8_set_63 kK_X8_78 ?_
      exact rI ret dX8_set_65 hf
    · refine g_iload_n Γ (pc := 20) 3 dX8_set_20 rfl rfl ?_
      refine g_i2l Γ (pc := 21) dX8_set_21 ?_
      refine g_iload_n Γ (pc := 22) 2 dX8_set_22 rfl rfl ?_
      refine g_iconst Γ (pc := 23) (v := 3) dX8_set_23 rfl ?_
      have J_34 : ∀ (s3 : Int64), f_X8_set_J34 a0 a1 a2 μ s3 = some (x, m) → G 34 [(0, .ref (sq Y 0)), (1, .int a0), (2, .int a1), (3, .int a2)] [.long s3, .long a2.toInt64] μ := by
        intro s3 hf
        unfold f_X8_set_J34 at hf
        refine g_iload_n Γ (pc := 34) 2 dX8_set_34 rfl rfl ?_
        refine g_iconst Γ (pc := 35) (v := 1) dX8_set_35 rfl ?_
        have J_57 : ∀ (s4 : Int64), f_X8_set_J57 a0 a1 a2 μ s3 s4 = some (x, m) → G 57 [(0, .ref (sq Y 0)), (1, .int a0), (2, .int a1), (3, .int a2)] [.long s4, .long s3, .long a2.toInt64] μ := by
          intro s4 hf
          unfold f_X8_set_J57 at hf
          obtain ⟨v5, h1, hf⟩ := bn1_i hf
          refine g_callSI Γ (pc := 57) (as := [.long a2.toInt64, .long s3, .long s4]) (st := []) dX8_set_57 (c_X8_isIn h1) mi_X8_isIn ms_X8_isIn kM_X8_65 rfl ⟨Nat.le_of_ble_eq_true rfl, Nat.le_of_ble_eq_true rfl⟩ rfl (Nat.le_of_ble_eq_true rfl) ?_
          refine g_if_ne Γ (pc := 60) (tgt := 66) dX8_set_60 rfl hf (fun hf => ?_) (fun hf => ?_)
          · refine g_aload_n Γ (pc := 66) 0 dX8_set_66 rfl rfl ?_
            refine g_bipush Γ (pc := 67) (v := 9) dX8_set_67 rfl ?_
            refine g_iconst Γ (pc := 69) (v := 5) dX8_set_69 rfl ?_
            refine g_iload_n Γ (pc := 70) 1 dX8_set_70 rfl rfl ?_
            refine g_imul Γ (pc := 71) dX8_set_71 ?_
            refine g_iadd Γ (pc := 72) dX8_set_72 ?_
            refine g_iload_n Γ (pc := 73) 2 dX8_set_73 rfl rfl ?_
            refine g_iadd Γ (pc := 74) dX8_set_74 ?_
            refine g_iload_n Γ (pc := 75) 3 dX8_set_75 rfl rfl ?_
            obtain ⟨v6, m7, h1, hf⟩ := bn2_i hf
            refine g_callVI Γ (pc := 76) (as := [.int ((9 + (5 * a0)) + a1), .int a2]) (st := []) dX8_set_76 (c_X8_becomes hM h1) (M_obj hM) rfl mi_X8_becomes mv_X8_becomes kM_X8_132 rfl ⟨Nat.le_of_ble_eq_true rfl, Nat.le_of_ble_eq_true rfl⟩ rfl (Nat.le_of_ble_eq_true rfl) ?_
            exact rI ret dX8_set_79 hf
          · refine g_ldc Γ (pc := 63) dX8_set_63 kK_X8_78 ?_
            exact rI ret dX8_set_65 hf
        refine g_icmp_ne Γ (pc := 36) (tgt := 43) dX8_set_36 rfl hf (fun hf => ?_) (fun hf => ?_)
        · refine g_iload_n Γ (pc := 43) 2 dX8_set_43 rfl rfl ?_
          refine g_iconst Γ (pc := 44) (v := 2) dX8_set_44 rfl ?_
          refine g_icmp_ne Γ (pc := 45) (tgt := 54) dX8_set_45 rfl hf (fun hf => ?_) (fun hf => ?_)
          · refine g_ldc2 Γ (pc := 54) dX8_set_54 kL_X8_139 ?_
            refine g_sub Γ [0, 1, 2, 3] rfl ?_
            exact J_57 9999 hf
          · refine g_ldc2 Γ (pc := 48) dX8_set_48 kL_X8_76 ?_
            refine g_goto Γ (pc := 51) (tgt := 57) dX8_set_51 rfl ?_
            refine g_sub Γ [0, 1, 2, 3] rfl ?_
            exact J_57 99 hf
        · refine g_lconst Γ (pc := 39) (v := 1) dX8_set_39 rfl ?_
          refine g_goto Γ (pc := 40) (tgt := 57) dX8_set_40 rfl ?_
          refine g_sub Γ [0, 1, 2, 3] rfl ?_
          exact J_57 1 hf
      refine g_icmp_ne Γ (pc := 24) (tgt := 33) dX8_set_24 rfl hf (fun hf => ?_) (fun hf => ?_)
      · refine g_lconst Γ (pc := 33) (v := 0) dX8_set_33 rfl ?_
        refine g_sub Γ [0, 1, 2, 3] rfl ?_
        exact J_34 0 hf
      · refine g_ldc2 Γ (pc := 27) dX8_set_27 kL_X8_137 ?_
        refine g_goto Γ (pc := 30) (tgt := 34) dX8_set_30 rfl ?_
        refine g_sub Γ [0, 1, 2, 3] rfl ?_
        exact J_34 (-9999) hf
def f_X8_areFriends (a0 : Int32) (a1 : Int32) (μ : Mem) : Option (Int32) :=
  bn1 (f_X8_of a0 4 μ) fun v1 =>
  some ((v1 >>> (a1 &&& 31)) &&& 1)
set_option maxRecDepth 100000 in
set_option maxHeartbeats 4000000 in
theorem c_X8_areFriends {Y : SYS} (hM : IsM Y) {a0 : Int32} {a1 : Int32} {μ : Mem} {x : Int32} (hf : f_X8_areFriends a0 a1 μ = some x) : KC Y yX8_areFriends cX8_areFriends 3 (some .int) 1 [.ref (sq Y 0), .int a0, .int a1] μ (some (.int x)) μ := by
  refine KC.I RX8 [(0, .ref (sq Y 0)), (1, .int a0), (2, .int a1)] (by decide) rfl (Nat.le_of_ble_eq_true rfl) rfl (fun G Γ ret => ?_)
  unfold f_X8_areFriends at hf
  refine g_aload_n Γ (pc := 0) 0 dX8_areFriends_0 rfl rfl ?_
  refine g_iload_n Γ (pc := 1) 1 dX8_areFriends_1 rfl rfl ?_
  refine g_iconst Γ (pc := 2) (v := 4) dX8_areFriends_2 rfl ?_
  obtain ⟨v1, h1, hf⟩ := bn1_i hf
  refine g_callVI Γ (pc := 3) (as := [.int a0, .int 4]) (st := []) dX8_areFriends_3 (c_X8_of hM h1) (M_obj hM) rfl mi_X8_of mv_X8_of kM_X8_83 rfl ⟨Nat.le_of_ble_eq_true rfl, Nat.le_of_ble_eq_true rfl⟩ rfl (Nat.le_of_ble_eq_true rfl) ?_
  refine g_iload_n Γ (pc := 6) 2 dX8_areFriends_6 rfl rfl ?_
  refine g_ishr Γ (pc := 7) dX8_areFriends_7 ?_
  refine g_iconst Γ (pc := 8) (v := 1) dX8_areFriends_8 rfl ?_
  refine g_iand Γ (pc := 9) dX8_areFriends_9 ?_
  exact rIr ret dX8_areFriends_10 hf
def f_X8_joins_J33 (a0 : Int32) (a1 : Int32) (a2 : Int32) (μ : Mem) (s1 : Int32) : Option (Mem) :=
  bn1 (f_X8_sets a0 4 s1 μ) fun m2 =>
  if a2 = 1 then
    bn1 (f_X8_of a1 4 m2) fun v5 =>
    bn1 (f_X8_sets a1 4 (v5 ||| (1 <<< (a0 &&& 31))) m2) fun m6 =>
    some m6
  else
    bn1 (f_X8_of a1 4 m2) fun v3 =>
    bn1 (f_X8_sets a1 4 (v3 &&& ((1 <<< (a0 &&& 31)) ^^^ (-1))) m2) fun m4 =>
    some m4
def f_X8_joins (a0 : Int32) (a1 : Int32) (a2 : Int32) (μ : Mem) : Option (Mem) :=
  if a2 = 1 then
    bn1 (f_X8_of a0 4 μ) fun v8 =>
    f_X8_joins_J33 a0 a1 a2 μ (v8 ||| (1 <<< (a1 &&& 31)))
  else
    bn1 (f_X8_of a0 4 μ) fun v7 =>
    f_X8_joins_J33 a0 a1 a2 μ (v7 &&& ((1 <<< (a1 &&& 31)) ^^^ (-1)))
set_option maxRecDepth 100000 in
set_option maxHeartbeats 4000000 in
theorem c_X8_joins {Y : SYS} (hM : IsM Y) {a0 : Int32} {a1 : Int32} {a2 : Int32} {μ : Mem} {m : Mem} (hf : f_X8_joins a0 a1 a2 μ = some m) : KC Y yX8_joins cX8_joins 4 none 1 [.ref (sq Y 0), .int a0, .int a1, .int a2] μ none m := by
  refine KC.V RX8 [(0, .ref (sq Y 0)), (1, .int a0), (2, .int a1), (3, .int a2)] (by decide) rfl (Nat.le_of_ble_eq_true rfl) rfl (fun G Γ ret => ?_)
  unfold f_X8_joins at hf
  refine g_aload_n Γ (pc := 0) 0 dX8_joins_0 rfl rfl ?_
  refine g_iload_n Γ (pc := 1) 1 dX8_joins_1 rfl rfl ?_
  refine g_iconst Γ (pc := 2) (v := 4) dX8_joins_2 rfl ?_
  refine g_iload_n Γ (pc := 3) 3 dX8_joins_3 rfl rfl ?_
  refine g_iconst Γ (pc := 4) (v := 1) dX8_joins_4 rfl ?_
  have J_33 : ∀ (s1 : Int32), f_X8_joins_J33 a0 a1 a2 μ s1 = some m → G 33 [(0, .ref (sq Y 0)), (1, .int a0), (2, .int a1), (3, .int a2)] [.int s1, .int 4, .int a0, .ref (sq Y 0)] μ := by
    intro s1 hf
    unfold f_X8_joins_J33 at hf
    obtain ⟨m2, h1, hf⟩ := bn1_i hf
    refine g_callVV Γ (pc := 33) (as := [.int a0, .int 4, .int s1]) (st := []) dX8_joins_33 (c_X8_sets hM h1) (M_obj hM) rfl mi_X8_sets mv_X8_sets kM_X8_70 rfl ⟨Nat.le_of_ble_eq_true rfl, Nat.le_of_ble_eq_true rfl⟩ rfl (Nat.le_of_ble_eq_true rfl) ?_
    refine g_aload_n Γ (pc := 36) 0 dX8_joins_36 rfl rfl ?_
    refine g_iload_n Γ (pc := 37) 2 dX8_joins_37 rfl rfl ?_
    refine g_iconst Γ (pc := 38) (v := 4) dX8_joins_38 rfl ?_
    refine g_iload_n Γ (pc := 39) 3 dX8_joins_39 rfl rfl ?_
    refine g_iconst Γ (pc := 40) (v := 1) dX8_joins_40 rfl ?_
    refine g_icmp_ne Γ (pc := 41) (tgt := 57) dX8_joins_41 rfl hf (fun hf => ?_) (fun hf => ?_)
    · refine g_aload_n Γ (pc := 57) 0 dX8_joins_57 rfl rfl ?_
      refine g_iload_n Γ (pc := 58) 2 dX8_joins_58 rfl rfl ?_
      refine g_iconst Γ (pc := 59) (v := 4) dX8_joins_59 rfl ?_
      obtain ⟨v3, h1, hf⟩ := bn1_i hf
      refine g_callVI Γ (pc := 60) (as := [.int a1, .int 4]) (st := [.int 4, .int a1, .ref (sq Y 0)]) dX8_joins_60 (c_X8_of hM h1) (M_obj hM) rfl mi_X8_of mv_X8_of kM_X8_83 rfl ⟨Nat.le_of_ble_eq_true rfl, Nat.le_of_ble_eq_true rfl⟩ rfl (Nat.le_of_ble_eq_true rfl) ?_
      refine g_iconst Γ (pc := 63) (v := 1) dX8_joins_63 rfl ?_
      refine g_iload_n Γ (pc := 64) 1 dX8_joins_64 rfl rfl ?_
      refine g_ishl Γ (pc := 65) dX8_joins_65 ?_
      refine g_iconst Γ (pc := 66) (v := (-1)) dX8_joins_66 rfl ?_
      refine g_ixor Γ (pc := 67) dX8_joins_67 ?_
      refine g_iand Γ (pc := 68) dX8_joins_68 ?_
      obtain ⟨m4, h1, hf⟩ := bn1_i hf
      refine g_callVV Γ (pc := 69) (as := [.int a1, .int 4, .int (v3 &&& ((1 <<< (a0 &&& 31)) ^^^ (-1)))]) (st := []) dX8_joins_69 (c_X8_sets hM h1) (M_obj hM) rfl mi_X8_sets mv_X8_sets kM_X8_70 rfl ⟨Nat.le_of_ble_eq_true rfl, Nat.le_of_ble_eq_true rfl⟩ rfl (Nat.le_of_ble_eq_true rfl) ?_
      exact rV ret dX8_joins_72 hf
    · refine g_aload_n Γ (pc := 44) 0 dX8_joins_44 rfl rfl ?_
      refine g_iload_n Γ (pc := 45) 2 dX8_joins_45 rfl rfl ?_
      refine g_iconst Γ (pc := 46) (v := 4) dX8_joins_46 rfl ?_
      obtain ⟨v5, h1, hf⟩ := bn1_i hf
      refine g_callVI Γ (pc := 47) (as := [.int a1, .int 4]) (st := [.int 4, .int a1, .ref (sq Y 0)]) dX8_joins_47 (c_X8_of hM h1) (M_obj hM) rfl mi_X8_of mv_X8_of kM_X8_83 rfl ⟨Nat.le_of_ble_eq_true rfl, Nat.le_of_ble_eq_true rfl⟩ rfl (Nat.le_of_ble_eq_true rfl) ?_
      refine g_iconst Γ (pc := 50) (v := 1) dX8_joins_50 rfl ?_
      refine g_iload_n Γ (pc := 51) 1 dX8_joins_51 rfl rfl ?_
      refine g_ishl Γ (pc := 52) dX8_joins_52 ?_
      refine g_ior Γ (pc := 53) dX8_joins_53 ?_
      refine g_goto Γ (pc := 54) (tgt := 69) dX8_joins_54 rfl ?_
      obtain ⟨m6, h1, hf⟩ := bn1_i hf
      refine g_callVV Γ (pc := 69) (as := [.int a1, .int 4, .int (v5 ||| (1 <<< (a0 &&& 31)))]) (st := []) dX8_joins_69 (c_X8_sets hM h1) (M_obj hM) rfl mi_X8_sets mv_X8_sets kM_X8_70 rfl ⟨Nat.le_of_ble_eq_true rfl, Nat.le_of_ble_eq_true rfl⟩ rfl (Nat.le_of_ble_eq_true rfl) ?_
      exact rV ret dX8_joins_72 hf
  refine g_icmp_ne Γ (pc := 5) (tgt := 21) dX8_joins_5 rfl hf (fun hf => ?_) (fun hf => ?_)
  · refine g_aload_n Γ (pc := 21) 0 dX8_joins_21 rfl rfl ?_
    refine g_iload_n Γ (pc := 22) 1 dX8_joins_22 rfl rfl ?_
    refine g_iconst Γ (pc := 23) (v := 4) dX8_joins_23 rfl ?_
    obtain ⟨v7, h1, hf⟩ := bn1_i hf
    refine g_callVI Γ (pc := 24) (as := [.int a0, .int 4]) (st := [.int 4, .int a0, .ref (sq Y 0)]) dX8_joins_24 (c_X8_of hM h1) (M_obj hM) rfl mi_X8_of mv_X8_of kM_X8_83 rfl ⟨Nat.le_of_ble_eq_true rfl, Nat.le_of_ble_eq_true rfl⟩ rfl (Nat.le_of_ble_eq_true rfl) ?_
    refine g_iconst Γ (pc := 27) (v := 1) dX8_joins_27 rfl ?_
    refine g_iload_n Γ (pc := 28) 2 dX8_joins_28 rfl rfl ?_
    refine g_ishl Γ (pc := 29) dX8_joins_29 ?_
    refine g_iconst Γ (pc := 30) (v := (-1)) dX8_joins_30 rfl ?_
    refine g_ixor Γ (pc := 31) dX8_joins_31 ?_
    refine g_iand Γ (pc := 32) dX8_joins_32 ?_
    refine g_sub Γ [0, 1, 2, 3] rfl ?_
    exact J_33 (v7 &&& ((1 <<< (a1 &&& 31)) ^^^ (-1))) hf
  · refine g_aload_n Γ (pc := 8) 0 dX8_joins_8 rfl rfl ?_
    refine g_iload_n Γ (pc := 9) 1 dX8_joins_9 rfl rfl ?_
    refine g_iconst Γ (pc := 10) (v := 4) dX8_joins_10 rfl ?_
    obtain ⟨v8, h1, hf⟩ := bn1_i hf
    refine g_callVI Γ (pc := 11) (as := [.int a0, .int 4]) (st := [.int 4, .int a0, .ref (sq Y 0)]) dX8_joins_11 (c_X8_of hM h1) (M_obj hM) rfl mi_X8_of mv_X8_of kM_X8_83 rfl ⟨Nat.le_of_ble_eq_true rfl, Nat.le_of_ble_eq_true rfl⟩ rfl (Nat.le_of_ble_eq_true rfl) ?_
    refine g_iconst Γ (pc := 14) (v := 1) dX8_joins_14 rfl ?_
    refine g_iload_n Γ (pc := 15) 2 dX8_joins_15 rfl rfl ?_
    refine g_ishl Γ (pc := 16) dX8_joins_16 ?_
    refine g_ior Γ (pc := 17) dX8_joins_17 ?_
    refine g_goto Γ (pc := 18) (tgt := 33) dX8_joins_18 rfl ?_
    refine g_sub Γ [0, 1, 2, 3] rfl ?_
    exact J_33 (v8 ||| (1 <<< (a1 &&& 31))) hf
def f_X8_friends (a0 : Int32) (a1 : Int32) (a2 : Int32) (μ : Mem) : Option (Int32 × Mem) :=
  bn1 (f_X8_isOne a0 μ) fun v1 =>
  if v1 = 0 then
    some ((-1000000001), μ)
  else
    bn1 (f_X8_isOne a1 μ) fun v2 =>
    if v2 = 0 then
      some ((-1000000001), μ)
    else
      if a0 = a1 then
        some ((-1000000001), μ)
      else
        bn1 (f_X8_isIn a2.toInt64 0 1) fun v3 =>
        if v3 = 0 then
          some ((-1000000001), μ)
        else
          bn1 (f_X8_areFriends a0 a1 μ) fun v4 =>
          bn1 (f_X8_joins a0 a1 a2 μ) fun m5 =>
          some (v4, m5)
set_option maxRecDepth 100000 in
set_option maxHeartbeats 4000000 in
theorem c_X8_friends {Y : SYS} (hM : IsM Y) {a0 : Int32} {a1 : Int32} {a2 : Int32} {μ : Mem} {x : Int32} {m : Mem} (hf : f_X8_friends a0 a1 a2 μ = some (x, m)) : KC Y yX8_friends cX8_friends 5 (some .int) 2 [.ref (sq Y 0), .int a0, .int a1, .int a2] μ (some (.int x)) m := by
  refine KC.I RX8 [(0, .ref (sq Y 0)), (1, .int a0), (2, .int a1), (3, .int a2)] (by decide) rfl (Nat.le_of_ble_eq_true rfl) rfl (fun G Γ ret => ?_)
  unfold f_X8_friends at hf
  refine g_aload_n Γ (pc := 0) 0 dX8_friends_0 rfl rfl ?_
  refine g_iload_n Γ (pc := 1) 1 dX8_friends_1 rfl rfl ?_
  obtain ⟨v1, h1, hf⟩ := bn1_i hf
  refine g_callVI Γ (pc := 2) (as := [.int a0]) (st := []) dX8_friends_2 (c_X8_isOne hM h1) (M_obj hM) rfl mi_X8_isOne mv_X8_isOne kM_X8_114 rfl ⟨Nat.le_of_ble_eq_true rfl, Nat.le_of_ble_eq_true rfl⟩ rfl (Nat.le_of_ble_eq_true rfl) ?_
  refine g_if_eq Γ (pc := 5) (tgt := 31) dX8_friends_5 rfl hf (fun hf => ?_) (fun hf => ?_)
  · refine g_ldc Γ (pc := 31) dX8_friends_31 kK_X8_78 ?_
    exact rI ret dX8_friends_33 hf
  · refine g_aload_n Γ (pc := 8) 0 dX8_friends_8 rfl rfl ?_
    refine g_iload_n Γ (pc := 9) 2 dX8_friends_9 rfl rfl ?_
    obtain ⟨v2, h1, hf⟩ := bn1_i hf
    refine g_callVI Γ (pc := 10) (as := [.int a1]) (st := []) dX8_friends_10 (c_X8_isOne hM h1) (M_obj hM) rfl mi_X8_isOne mv_X8_isOne kM_X8_114 rfl ⟨Nat.le_of_ble_eq_true rfl, Nat.le_of_ble_eq_true rfl⟩ rfl (Nat.le_of_ble_eq_true rfl) ?_
    refine g_if_eq Γ (pc := 13) (tgt := 31) dX8_friends_13 rfl hf (fun hf => ?_) (fun hf => ?_)
    · refine g_ldc Γ (pc := 31) dX8_friends_31 kK_X8_78 ?_
      exact rI ret dX8_friends_33 hf
    · refine g_iload_n Γ (pc := 16) 1 dX8_friends_16 rfl rfl ?_
      refine g_iload_n Γ (pc := 17) 2 dX8_friends_17 rfl rfl ?_
      refine g_icmp_eq Γ (pc := 18) (tgt := 31) dX8_friends_18 rfl hf (fun hf => ?_) (fun hf => ?_)
      · refine g_ldc Γ (pc := 31) dX8_friends_31 kK_X8_78 ?_
        exact rI ret dX8_friends_33 hf
      · refine g_iload_n Γ (pc := 21) 3 dX8_friends_21 rfl rfl ?_
        refine g_i2l Γ (pc := 22) dX8_friends_22 ?_
        refine g_lconst Γ (pc := 23) (v := 0) dX8_friends_23 rfl ?_
        refine g_lconst Γ (pc := 24) (v := 1) dX8_friends_24 rfl ?_
        obtain ⟨v3, h1, hf⟩ := bn1_i hf
        refine g_callSI Γ (pc := 25) (as := [.long a2.toInt64, .long 0, .long 1]) (st := []) dX8_friends_25 (c_X8_isIn h1) mi_X8_isIn ms_X8_isIn kM_X8_65 rfl ⟨Nat.le_of_ble_eq_true rfl, Nat.le_of_ble_eq_true rfl⟩ rfl (Nat.le_of_ble_eq_true rfl) ?_
        refine g_if_ne Γ (pc := 28) (tgt := 34) dX8_friends_28 rfl hf (fun hf => ?_) (fun hf => ?_)
        · refine g_aload_n Γ (pc := 34) 0 dX8_friends_34 rfl rfl ?_
          refine g_iload_n Γ (pc := 35) 1 dX8_friends_35 rfl rfl ?_
          refine g_iload_n Γ (pc := 36) 2 dX8_friends_36 rfl rfl ?_
          obtain ⟨v4, h1, hf⟩ := bn1_i hf
          refine g_callVI Γ (pc := 37) (as := [.int a0, .int a1]) (st := []) dX8_friends_37 (c_X8_areFriends hM h1) (M_obj hM) rfl mi_X8_areFriends mv_X8_areFriends kM_X8_141 rfl ⟨Nat.le_of_ble_eq_true rfl, Nat.le_of_ble_eq_true rfl⟩ rfl (Nat.le_of_ble_eq_true rfl) ?_
          refine g_istore Γ (pc := 40) (lv' := [(4, .int v4), (0, .ref (sq Y 0)), (1, .int a0), (2, .int a1), (3, .int a2)]) dX8_friends_40 (by decide) rfl ?_
          refine g_aload_n Γ (pc := 42) 1 dX8_friends_42 rfl rfl ?_
          refine g_iload_n Γ (pc := 43) 2 dX8_friends_43 rfl rfl ?_
          refine g_iload_n Γ (pc := 44) 3 dX8_friends_44 rfl rfl ?_
          refine g_iload_n Γ (pc := 45) 4 dX8_friends_45 rfl rfl ?_
          obtain ⟨m5, h1, hf⟩ := bn1_i hf
          refine g_callVV Γ (pc := 46) (as := [.int a0, .int a1, .int a2]) (st := []) dX8_friends_46 (c_X8_joins hM h1) (M_obj hM) rfl mi_X8_joins mv_X8_joins kM_X8_144 rfl ⟨Nat.le_of_ble_eq_true rfl, Nat.le_of_ble_eq_true rfl⟩ rfl (Nat.le_of_ble_eq_true rfl) ?_
          refine g_iload Γ (pc := 49) 0 dX8_friends_49 rfl ?_
          exact rI ret dX8_friends_51 hf
        · refine g_ldc Γ (pc := 31) dX8_friends_31 kK_X8_78 ?_
          exact rI ret dX8_friends_33 hf
def f_X8_rule_J39 (a0 : Int32) (a1 : Int32) (μ : Mem) (s2 : Int64) : Option (Int32 × Mem) :=
  bn1 (f_X8_isIn a1.toInt64 0 s2) fun v3 =>
  if v3 = 0 then
    some ((-1000000001), μ)
  else
    bn2 (f_X8_becomes (6 + a0) a1 μ) fun v4 m5 =>
    some (v4, m5)
def f_X8_rule (a0 : Int32) (a1 : Int32) (μ : Mem) : Option (Int32 × Mem) :=
  bn1 (f_X8_isIn a0.toInt64 0 2) fun v1 =>
  if v1 = 0 then
    some ((-1000000001), μ)
  else
    if a0 = 0 then
      f_X8_rule_J39 a0 a1 μ 9
    else
      if a0 = 1 then
        f_X8_rule_J39 a0 a1 μ 2
      else
        f_X8_rule_J39 a0 a1 μ 100
set_option maxRecDepth 100000 in
set_option maxHeartbeats 4000000 in
theorem c_X8_rule {Y : SYS} (hM : IsM Y) {a0 : Int32} {a1 : Int32} {μ : Mem} {x : Int32} {m : Mem} (hf : f_X8_rule a0 a1 μ = some (x, m)) : KC Y yX8_rule cX8_rule 3 (some .int) 1 [.ref (sq Y 0), .int a0, .int a1] μ (some (.int x)) m := by
  refine KC.I RX8 [(0, .ref (sq Y 0)), (1, .int a0), (2, .int a1)] (by decide) rfl (Nat.le_of_ble_eq_true rfl) rfl (fun G Γ ret => ?_)
  unfold f_X8_rule at hf
  refine g_iload_n Γ (pc := 0) 1 dX8_rule_0 rfl rfl ?_
  refine g_i2l Γ (pc := 1) dX8_rule_1 ?_
  refine g_lconst Γ (pc := 2) (v := 0) dX8_rule_2 rfl ?_
  refine g_ldc2 Γ (pc := 3) dX8_rule_3 kL_X8_147 ?_
  obtain ⟨v1, h1, hf⟩ := bn1_i hf
  refine g_callSI Γ (pc := 6) (as := [.long a0.toInt64, .long 0, .long 2]) (st := []) dX8_rule_6 (c_X8_isIn h1) mi_X8_isIn ms_X8_isIn kM_X8_65 rfl ⟨Nat.le_of_ble_eq_true rfl, Nat.le_of_ble_eq_true rfl⟩ rfl (Nat.le_of_ble_eq_true rfl) ?_
  refine g_if_eq Γ (pc := 9) (tgt := 45) dX8_rule_9 rfl hf (fun hf => ?_) (fun hf => ?_)
  · refine g_ldc Γ (pc := 45) dX8_rule_45 kK_X8_78 ?_
    exact rI ret dX8_rule_47 hf
  · refine g_iload_n Γ (pc := 12) 2 dX8_rule_12 rfl rfl ?_
    refine g_i2l Γ (pc := 13) dX8_rule_13 ?_
    refine g_lconst Γ (pc := 14) (v := 0) dX8_rule_14 rfl ?_
    refine g_iload_n Γ (pc := 15) 1 dX8_rule_15 rfl rfl ?_
    have J_39 : ∀ (s2 : Int64), f_X8_rule_J39 a0 a1 μ s2 = some (x, m) → G 39 [(0, .ref (sq Y 0)), (1, .int a0), (2, .int a1)] [.long s2, .long 0, .long a1.toInt64] μ := by
      intro s2 hf
      unfold f_X8_rule_J39 at hf
      obtain ⟨v3, h1, hf⟩ := bn1_i hf
      refine g_callSI Γ (pc := 39) (as := [.long a1.toInt64, .long 0, .long s2]) (st := []) dX8_rule_39 (c_X8_isIn h1) mi_X8_isIn ms_X8_isIn kM_X8_65 rfl ⟨Nat.le_of_ble_eq_true rfl, Nat.le_of_ble_eq_true rfl⟩ rfl (Nat.le_of_ble_eq_true rfl) ?_
      refine g_if_ne Γ (pc := 42) (tgt := 48) dX8_rule_42 rfl hf (fun hf => ?_) (fun hf => ?_)
      · refine g_aload_n Γ (pc := 48) 0 dX8_rule_48 rfl rfl ?_
        refine g_bipush Γ (pc := 49) (v := 6) dX8_rule_49 rfl ?_
        refine g_iload_n Γ (pc := 51) 1 dX8_rule_51 rfl rfl ?_
        refine g_iadd Γ (pc := 52) dX8_rule_52 ?_
        refine g_iload_n Γ (pc := 53) 2 dX8_rule_53 rfl rfl ?_
        obtain ⟨v4, m5, h1, hf⟩ := bn2_i hf
        refine g_callVI Γ (pc := 54) (as := [.int (6 + a0), .int a1]) (st := []) dX8_rule_54 (c_X8_becomes hM h1) (M_obj hM) rfl mi_X8_becomes mv_X8_becomes kM_X8_132 rfl ⟨Nat.le_of_ble_eq_true rfl, Nat.le_of_ble_eq_true rfl⟩ rfl (Nat.le_of_ble_eq_true rfl) ?_
        exact rI ret dX8_rule_57 hf
      · refine g_ldc Γ (pc := 45) dX8_rule_45 kK_X8_78 ?_
        exact rI ret dX8_rule_47 hf
    refine g_if_ne Γ (pc := 16) (tgt := 25) dX8_rule_16 rfl hf (fun hf => ?_) (fun hf => ?_)
    · refine g_iload_n Γ (pc := 25) 1 dX8_rule_25 rfl rfl ?_
      refine g_iconst Γ (pc := 26) (v := 1) dX8_rule_26 rfl ?_
      refine g_icmp_ne Γ (pc := 27) (tgt := 36) dX8_rule_27 rfl hf (fun hf => ?_) (fun hf => ?_)
      · refine g_ldc2 Γ (pc := 36) dX8_rule_36 kL_X8_151 ?_
        refine g_sub Γ [0, 1, 2] rfl ?_
        exact J_39 100 hf
      · refine g_ldc2 Γ (pc := 30) dX8_rule_30 kL_X8_147 ?_
        refine g_goto Γ (pc := 33) (tgt := 39) dX8_rule_33 rfl ?_
        refine g_sub Γ [0, 1, 2] rfl ?_
        exact J_39 2 hf
    · refine g_ldc2 Γ (pc := 19) dX8_rule_19 kL_X8_149 ?_
      refine g_goto Γ (pc := 22) (tgt := 39) dX8_rule_22 rfl ?_
      refine g_sub Γ [0, 1, 2] rfl ?_
      exact J_39 9 hf
def f_X8_drawn (μ : Mem) : Option (Int32 × Mem) :=
  bn1 (ldM (μ 1) 3059 5) fun v1 =>
  bn1 (stM μ 1 3059 5 ((v1 * 1103515245) + 12345)) fun m2 =>
  bn1 (ldM (m2 1) 3059 5) fun v3 =>
  some (((v3.toUInt32 >>> ((8 : Int32).toUInt32 &&& Int32.toUInt32 31)).toInt32), m2)
set_option maxRecDepth 100000 in
set_option maxHeartbeats 4000000 in
theorem c_X8_drawn {Y : SYS} (hM : IsM Y) {μ : Mem} {x : Int32} {m : Mem} (hf : f_X8_drawn μ = some (x, m)) : KC Y yX8_drawn cX8_drawn 1 (some .int) 0 [.ref (sq Y 0)] μ (some (.int x)) m := by
  refine KC.I RX8 [(0, .ref (sq Y 0))] (by decide) rfl (Nat.le_of_ble_eq_true rfl) rfl (fun G Γ ret => ?_)
  unfold f_X8_drawn at hf
  refine g_aload_n Γ (pc := 0) 0 dX8_drawn_0 rfl rfl ?_
  refine g_get Γ (pc := 1) (v := .ref (sq Y 1)) dX8_drawn_1 (M_obj hM) fr_X8_7 rfl ?_
  refine g_iconst Γ (pc := 4) (v := 5) dX8_drawn_4 rfl ?_
  refine g_aload_n Γ (pc := 5) 0 dX8_drawn_5 rfl rfl ?_
  refine g_get Γ (pc := 6) (v := .ref (sq Y 1)) dX8_drawn_6 (M_obj hM) fr_X8_7 rfl ?_
  refine g_iconst Γ (pc := 9) (v := 5) dX8_drawn_9 rfl ?_
  refine g_iald Γ (pc := 10) dX8_drawn_10 (M_1 hM) hf (fun v1 hf => ?_)
  refine g_ldc Γ (pc := 11) dX8_drawn_11 kK_X8_69 ?_
  refine g_imul Γ (pc := 13) dX8_drawn_13 ?_
  refine g_sipush Γ (pc := 14) (v := 12345) dX8_drawn_14 rfl ?_
  refine g_iadd Γ (pc := 17) dX8_drawn_17 ?_
  refine g_iast Γ (pc := 18) dX8_drawn_18 (M_1 hM) hf (fun m2 hf => ?_)
  refine g_aload_n Γ (pc := 19) 0 dX8_drawn_19 rfl rfl ?_
  refine g_get Γ (pc := 20) (v := .ref (sq Y 1)) dX8_drawn_20 (M_obj hM) fr_X8_7 rfl ?_
  refine g_iconst Γ (pc := 23) (v := 5) dX8_drawn_23 rfl ?_
  refine g_iald Γ (pc := 24) dX8_drawn_24 (M_1 hM) hf (fun v3 hf => ?_)
  refine g_bipush Γ (pc := 25) (v := 8) dX8_drawn_25 rfl ?_
  refine g_iushr Γ (pc := 27) dX8_drawn_27 ?_
  exact rI ret dX8_drawn_28 hf
def f_X8_deal_K17_69 (y2_2 : Int32) (m3 : Mem) : Option (Int32 × Mem) :=
  some (y2_2, m3)
def f_X8_deal_L17 (a0 : Int32) (x2_4 : Int32) (m5 : Mem) : Option ((Int32 × Mem) ⊕ (Int32 × Mem)) :=
  if a0 ≤ x2_4 then
    some (.inr (x2_4, m5))
  else
    bn1 (ldM (m5 1) 3059 0) fun v6 =>
    if 10 ≤ v6 then
      some (.inr (x2_4, m5))
    else
      bn2 (f_X8_drawn m5) fun v7 m8 =>
      bn1 (rmM v7 6) fun v9 =>
      bn2 (f_X8_drawn m8) fun v10 m11 =>
      bn1 (rmM v10 2) fun v12 =>
      bn2 (f_X8_drawn m11) fun v13 m14 =>
      bn1 (rmM v13 30) fun v15 =>
      bn1 (f_X8_comes v9 v12 v15 m14) fun m16 =>
      some (.inl (x2_4 + 1, m16))
def f_X8_deal (a0 : Int32) (μ : Mem) : Option (Int32 × Mem) :=
  bn1 (f_X8_isIn a0.toInt64 1 10) fun v1 =>
  if v1 = 0 then
    some ((-1000000001), μ)
  else
    bn1 (lpF (fun v => f_X8_deal_L17 a0 v.1 v.2) 4000 (0, μ)) (fun x => f_X8_deal_K17_69 x.1 x.2)
set_option maxRecDepth 100000 in
set_option maxHeartbeats 4000000 in
theorem c_X8_deal {Y : SYS} (hM : IsM Y) {a0 : Int32} {μ : Mem} {x : Int32} {m : Mem} (hf : f_X8_deal a0 μ = some (x, m)) : KC Y yX8_deal cX8_deal 5 (some .int) 2 [.ref (sq Y 0), .int a0] μ (some (.int x)) m := by
  refine KC.I RX8 [(0, .ref (sq Y 0)), (1, .int a0)] (by decide) rfl (Nat.le_of_ble_eq_true rfl) rfl (fun G Γ ret => ?_)
  unfold f_X8_deal at hf
  refine g_iload_n Γ (pc := 0) 1 dX8_deal_0 rfl rfl ?_
  refine g_i2l Γ (pc := 1) dX8_deal_1 ?_
  refine g_lconst Γ (pc := 2) (v := 1) dX8_deal_2 rfl ?_
  refine g_ldc2 Γ (pc := 3) dX8_deal_3 kL_X8_153 ?_
  obtain ⟨v1, h1, hf⟩ := bn1_i hf
  refine g_callSI Γ (pc := 6) (as := [.long a0.toInt64, .long 1, .long 10]) (st := []) dX8_deal_6 (c_X8_isIn h1) mi_X8_isIn ms_X8_isIn kM_X8_65 rfl ⟨Nat.le_of_ble_eq_true rfl, Nat.le_of_ble_eq_true rfl⟩ rfl (Nat.le_of_ble_eq_true rfl) ?_
  refine g_if_ne Γ (pc := 9) (tgt := 15) dX8_deal_9 rfl hf (fun hf => ?_) (fun hf => ?_)
  · refine g_iconst Γ (pc := 15) (v := 0) dX8_deal_15 rfl ?_
    refine g_istore_n Γ (pc := 16) (lv' := [(2, .int 0), (0, .ref (sq Y 0)), (1, .int a0)]) dX8_deal_16 rfl (by decide) rfl ?_
    have K_17_69 : ∀ (y2_2 : Int32) (m3 : Mem), f_X8_deal_K17_69 y2_2 m3 = some (x, m) → G 69 [(2, .int y2_2)] [] m3 := by
      intro y2_2 m3 hf
      unfold f_X8_deal_K17_69 at hf
      refine g_iload_n Γ (pc := 69) 0 dX8_deal_69 rfl rfl ?_
      exact rI ret dX8_deal_70 hf
    refine g_sub Γ [1, 2, 0] rfl ?_
    refine lpF_s (P := fun (v : Int32 × Mem) => G 17 [(0, .ref (sq Y 0)), (1, .int a0), (2, .int v.1)] [] v.2) hf (fun v z1 hf kI1 kX1 => ?_)
    obtain ⟨x2_4, m5⟩ := v
    replace hf : f_X8_deal_L17 a0 x2_4 m5 = some z1 := hf
    show G 17 [(0, .ref (sq Y 0)), (1, .int a0), (2, .int x2_4)] [] m5
    unfold f_X8_deal_L17 at hf
    refine g_iload_n Γ (pc := 17) 2 dX8_deal_17 rfl rfl ?_
    refine g_iload_n Γ (pc := 18) 1 dX8_deal_18 rfl rfl ?_
    refine g_icmp_ge Γ (pc := 19) (tgt := 69) dX8_deal_19 rfl hf (fun hf => ?_) (fun hf => ?_)
    · refine g_sub Γ [2] rfl ?_
      exact K_17_69 x2_4 m5 (kX1 (x2_4, m5) (Option.some.inj hf).symm)
    · refine g_aload_n Γ (pc := 22) 0 dX8_deal_22 rfl rfl ?_
      refine g_get Γ (pc := 23) (v := .ref (sq Y 1)) dX8_deal_23 (M_obj hM) fr_X8_7 rfl ?_
      refine g_iconst Γ (pc := 26) (v := 0) dX8_deal_26 rfl ?_
      refine g_iald Γ (pc := 27) dX8_deal_27 (M_1 hM) hf (fun v6 hf => ?_)
      refine g_bipush Γ (pc := 28) (v := 10) dX8_deal_28 rfl ?_
      refine g_icmp_ge Γ (pc := 30) (tgt := 69) dX8_deal_30 rfl hf (fun hf => ?_) (fun hf => ?_)
      · refine g_sub Γ [2] rfl ?_
        exact K_17_69 x2_4 m5 (kX1 (x2_4, m5) (Option.some.inj hf).symm)
      · refine g_aload_n Γ (pc := 33) 0 dX8_deal_33 rfl rfl ?_
        obtain ⟨v7, m8, h1, hf⟩ := bn2_i hf
        refine g_callVI Γ (pc := 34) (as := []) (st := []) dX8_deal_34 (c_X8_drawn hM h1) (M_obj hM) rfl mi_X8_drawn mv_X8_drawn kM_X8_155 rfl ⟨Nat.le_of_ble_eq_true rfl, Nat.le_of_ble_eq_true rfl⟩ rfl (Nat.le_of_ble_eq_true rfl) ?_
        refine g_bipush Γ (pc := 37) (v := 6) dX8_deal_37 rfl ?_
        refine g_irem Γ (pc := 39) dX8_deal_39 hf (fun v9 hf => ?_)
        refine g_istore_n Γ (pc := 40) (lv' := [(3, .int v9), (0, .ref (sq Y 0)), (1, .int a0), (2, .int x2_4)]) dX8_deal_40 rfl (by decide) rfl ?_
        refine g_aload_n Γ (pc := 41) 1 dX8_deal_41 rfl rfl ?_
        obtain ⟨v10, m11, h1, hf⟩ := bn2_i hf
        refine g_callVI Γ (pc := 42) (as := []) (st := []) dX8_deal_42 (c_X8_drawn hM h1) (M_obj hM) rfl mi_X8_drawn mv_X8_drawn kM_X8_155 rfl ⟨Nat.le_of_ble_eq_true rfl, Nat.le_of_ble_eq_true rfl⟩ rfl (Nat.le_of_ble_eq_true rfl) ?_
        refine g_iconst Γ (pc := 45) (v := 2) dX8_deal_45 rfl ?_
        refine g_irem Γ (pc := 46) dX8_deal_46 hf (fun v12 hf => ?_)
        refine g_istore Γ (pc := 47) (lv' := [(4, .int v12), (3, .int v9), (0, .ref (sq Y 0)), (1, .int a0), (2, .int x2_4)]) dX8_deal_47 (by decide) rfl ?_
        refine g_aload_n Γ (pc := 49) 2 dX8_deal_49 rfl rfl ?_
        refine g_iload_n Γ (pc := 50) 1 dX8_deal_50 rfl rfl ?_
        refine g_iload Γ (pc := 51) 0 dX8_deal_51 rfl ?_
        refine g_aload_n Γ (pc := 53) 2 dX8_deal_53 rfl rfl ?_
        obtain ⟨v13, m14, h1, hf⟩ := bn2_i hf
        refine g_callVI Γ (pc := 54) (as := []) (st := [.int v12, .int v9, .ref (sq Y 0)]) dX8_deal_54 (c_X8_drawn hM h1) (M_obj hM) rfl mi_X8_drawn mv_X8_drawn kM_X8_155 rfl ⟨Nat.le_of_ble_eq_true rfl, Nat.le_of_ble_eq_true rfl⟩ rfl (Nat.le_of_ble_eq_true rfl) ?_
        refine g_bipush Γ (pc := 57) (v := 30) dX8_deal_57 rfl ?_
        refine g_irem Γ (pc := 59) dX8_deal_59 hf (fun v15 hf => ?_)
        obtain ⟨m16, h1, hf⟩ := bn1_i hf
        refine g_callVV Γ (pc := 60) (as := [.int v9, .int v12, .int v15]) (st := []) dX8_deal_60 (c_X8_comes hM h1) (M_obj hM) rfl mi_X8_comes mv_X8_comes kM_X8_80 rfl ⟨Nat.le_of_ble_eq_true rfl, Nat.le_of_ble_eq_true rfl⟩ rfl (Nat.le_of_ble_eq_true rfl) ?_
        refine g_iinc Γ (pc := 63) (v := x2_4 + 1) (lv' := [(2, .int (x2_4 + 1)), (4, .int v12), (3, .int v9), (0, .ref (sq Y 0)), (1, .int a0)]) 4 dX8_deal_63 rfl rfl (by decide) rfl ?_
        refine g_goto Γ (pc := 66) (tgt := 17) dX8_deal_66 rfl ?_
        refine g_sub Γ [3, 4, 0] rfl ?_
        exact kI1 (x2_4 + 1, m16) (Option.some.inj hf).symm
  · refine g_ldc Γ (pc := 12) dX8_deal_12 kK_X8_78 ?_
    exact rI ret dX8_deal_14 hf
def f_X8_seed (a0 : Int32) (μ : Mem) : Option (Int32 × Mem) :=
  bn2 (f_X8_becomes 5 a0 μ) fun v1 m2 =>
  some (v1, m2)
set_option maxRecDepth 100000 in
set_option maxHeartbeats 4000000 in
theorem c_X8_seed {Y : SYS} (hM : IsM Y) {a0 : Int32} {μ : Mem} {x : Int32} {m : Mem} (hf : f_X8_seed a0 μ = some (x, m)) : KC Y yX8_seed cX8_seed 2 (some .int) 1 [.ref (sq Y 0), .int a0] μ (some (.int x)) m := by
  refine KC.I RX8 [(0, .ref (sq Y 0)), (1, .int a0)] (by decide) rfl (Nat.le_of_ble_eq_true rfl) rfl (fun G Γ ret => ?_)
  unfold f_X8_seed at hf
  refine g_aload_n Γ (pc := 0) 0 dX8_seed_0 rfl rfl ?_
  refine g_iconst Γ (pc := 1) (v := 5) dX8_seed_1 rfl ?_
  refine g_iload_n Γ (pc := 2) 1 dX8_seed_2 rfl rfl ?_
  obtain ⟨v1, m2, h1, hf⟩ := bn2_i hf
  refine g_callVI Γ (pc := 3) (as := [.int 5, .int a0]) (st := []) dX8_seed_3 (c_X8_becomes hM h1) (M_obj hM) rfl mi_X8_becomes mv_X8_becomes kM_X8_132 rfl ⟨Nat.le_of_ble_eq_true rfl, Nat.le_of_ble_eq_true rfl⟩ rfl (Nat.le_of_ble_eq_true rfl) ?_
  exact rI ret dX8_seed_6 hf
def f_X8_allOff_K4_28 (y1_1 : Int32) : Option (Int32) :=
  some y1_1
def f_X8_allOff_L4 (μ : Mem) (x1_2 : Int32) (x2_3 : Int32) : Option ((Int32 × Int32) ⊕ Int32) :=
  bn1 (ldM (μ 1) 3059 0) fun v4 =>
  if v4 ≤ x2_3 then
    some (.inr x1_2)
  else
    bn1 (f_X8_offOf x2_3 μ) fun v5 =>
    some (.inl ((x1_2 + v5), x2_3 + 1))
def f_X8_allOff (μ : Mem) : Option (Int32) :=
  bn1 (lpF (fun v => f_X8_allOff_L4 μ v.1 v.2) 4000 (0, 0)) (fun x => f_X8_allOff_K4_28 x)
set_option maxRecDepth 100000 in
set_option maxHeartbeats 4000000 in
theorem c_X8_allOff {Y : SYS} (hM : IsM Y) {μ : Mem} {x : Int32} (hf : f_X8_allOff μ = some x) : KC Y yX8_allOff cX8_allOff 3 (some .int) 3 [.ref (sq Y 0)] μ (some (.int x)) μ := by
  refine KC.I RX8 [(0, .ref (sq Y 0))] (by decide) rfl (Nat.le_of_ble_eq_true rfl) rfl (fun G Γ ret => ?_)
  unfold f_X8_allOff at hf
  refine g_iconst Γ (pc := 0) (v := 0) dX8_allOff_0 rfl ?_
  refine g_istore_n Γ (pc := 1) (lv' := [(1, .int 0), (0, .ref (sq Y 0))]) dX8_allOff_1 rfl (by decide) rfl ?_
  refine g_iconst Γ (pc := 2) (v := 0) dX8_allOff_2 rfl ?_
  refine g_istore_n Γ (pc := 3) (lv' := [(2, .int 0), (1, .int 0), (0, .ref (sq Y 0))]) dX8_allOff_3 rfl (by decide) rfl ?_
  have K_4_28 : ∀ (y1_1 : Int32), f_X8_allOff_K4_28 y1_1 = some x → G 28 [(1, .int y1_1)] [] μ := by
    intro y1_1 hf
    unfold f_X8_allOff_K4_28 at hf
    refine g_iload_n Γ (pc := 28) 0 dX8_allOff_28 rfl rfl ?_
    exact rIr ret dX8_allOff_29 hf
  refine g_sub Γ [2, 1, 0] rfl ?_
  refine lpF_s (P := fun (v : Int32 × Int32) => G 4 [(0, .ref (sq Y 0)), (1, .int v.1), (2, .int v.2)] [] μ) hf (fun v z1 hf kI1 kX1 => ?_)
  obtain ⟨x1_2, x2_3⟩ := v
  replace hf : f_X8_allOff_L4 μ x1_2 x2_3 = some z1 := hf
  show G 4 [(0, .ref (sq Y 0)), (1, .int x1_2), (2, .int x2_3)] [] μ
  unfold f_X8_allOff_L4 at hf
  refine g_iload_n Γ (pc := 4) 2 dX8_allOff_4 rfl rfl ?_
  refine g_aload_n Γ (pc := 5) 0 dX8_allOff_5 rfl rfl ?_
  refine g_get Γ (pc := 6) (v := .ref (sq Y 1)) dX8_allOff_6 (M_obj hM) fr_X8_7 rfl ?_
  refine g_iconst Γ (pc := 9) (v := 0) dX8_allOff_9 rfl ?_
  refine g_iald Γ (pc := 10) dX8_allOff_10 (M_1 hM) hf (fun v4 hf => ?_)
  refine g_icmp_ge Γ (pc := 11) (tgt := 28) dX8_allOff_11 rfl hf (fun hf => ?_) (fun hf => ?_)
  · refine g_sub Γ [1] rfl ?_
    exact K_4_28 x1_2 (kX1 x1_2 (Option.some.inj hf).symm)
  · refine g_iload_n Γ (pc := 14) 1 dX8_allOff_14 rfl rfl ?_
    refine g_aload_n Γ (pc := 15) 0 dX8_allOff_15 rfl rfl ?_
    refine g_iload_n Γ (pc := 16) 2 dX8_allOff_16 rfl rfl ?_
    obtain ⟨v5, h1, hf⟩ := bn1_i hf
    refine g_callVI Γ (pc := 17) (as := [.int x2_3]) (st := [.int x1_2]) dX8_allOff_17 (c_X8_offOf hM h1) (M_obj hM) rfl mi_X8_offOf mv_X8_offOf kM_X8_101 rfl ⟨Nat.le_of_ble_eq_true rfl, Nat.le_of_ble_eq_true rfl⟩ rfl (Nat.le_of_ble_eq_true rfl) ?_
    refine g_iadd Γ (pc := 20) dX8_allOff_20 ?_
    refine g_istore_n Γ (pc := 21) (lv' := [(1, .int (x1_2 + v5)), (0, .ref (sq Y 0)), (2, .int x2_3)]) dX8_allOff_21 rfl (by decide) rfl ?_
    refine g_iinc Γ (pc := 22) (v := x2_3 + 1) (lv' := [(2, .int (x2_3 + 1)), (1, .int (x1_2 + v5)), (0, .ref (sq Y 0))]) 2 dX8_allOff_22 rfl rfl (by decide) rfl ?_
    refine g_goto Γ (pc := 25) (tgt := 4) dX8_allOff_25 rfl ?_
    refine g_sub Γ [2, 1, 0] rfl ?_
    exact kI1 ((x1_2 + v5), x2_3 + 1) (Option.some.inj hf).symm
def f_X8_disorder_K4_46 (y2_1 : Int32) : Option (Int32) :=
  some y2_1
def f_X8_disorder_J38 (x2_2 : Int32) (x3_3 : Int32) (s7 : Int32) : Option ((Int32 × Int32) ⊕ Int32) :=
  some (.inl ((x2_2 ||| s7), x3_3 + 1))
def f_X8_disorder_L4 (a0 : Int32) (μ : Mem) (x2_2 : Int32) (x3_3 : Int32) : Option ((Int32 × Int32) ⊕ Int32) :=
  bn1 (ldM (μ 1) 3059 0) fun v4 =>
  if v4 ≤ x3_3 then
    some (.inr x2_2)
  else
    bn1 (f_X8_offBy x3_3 a0 μ) fun v5 =>
    bn1 (ldM (μ 1) 3059 6) fun v6 =>
    if v5 ≤ v6 then
      f_X8_disorder_J38 x2_2 x3_3 0
    else
      f_X8_disorder_J38 x2_2 x3_3 (1 <<< (x3_3 &&& 31))
def f_X8_disorder (a0 : Int32) (μ : Mem) : Option (Int32) :=
  bn1 (lpF (fun v => f_X8_disorder_L4 a0 μ v.1 v.2) 4000 (0, 0)) (fun x => f_X8_disorder_K4_46 x)
set_option maxRecDepth 100000 in
set_option maxHeartbeats 4000000 in
theorem c_X8_disorder {Y : SYS} (hM : IsM Y) {a0 : Int32} {μ : Mem} {x : Int32} (hf : f_X8_disorder a0 μ = some x) : KC Y yX8_disorder cX8_disorder 4 (some .int) 2 [.ref (sq Y 0), .int a0] μ (some (.int x)) μ := by
  refine KC.I RX8 [(0, .ref (sq Y 0)), (1, .int a0)] (by decide) rfl (Nat.le_of_ble_eq_true rfl) rfl (fun G Γ ret => ?_)
  unfold f_X8_disorder at hf
  refine g_iconst Γ (pc := 0) (v := 0) dX8_disorder_0 rfl ?_
  refine g_istore_n Γ (pc := 1) (lv' := [(2, .int 0), (0, .ref (sq Y 0)), (1, .int a0)]) dX8_disorder_1 rfl (by decide) rfl ?_
  refine g_iconst Γ (pc := 2) (v := 0) dX8_disorder_2 rfl ?_
  refine g_istore_n Γ (pc := 3) (lv' := [(3, .int 0), (2, .int 0), (0, .ref (sq Y 0)), (1, .int a0)]) dX8_disorder_3 rfl (by decide) rfl ?_
  have K_4_46 : ∀ (y2_1 : Int32), f_X8_disorder_K4_46 y2_1 = some x → G 46 [(2, .int y2_1)] [] μ := by
    intro y2_1 hf
    unfold f_X8_disorder_K4_46 at hf
    refine g_iload_n Γ (pc := 46) 0 dX8_disorder_46 rfl rfl ?_
    exact rIr ret dX8_disorder_47 hf
  refine g_sub Γ [2, 3, 1, 0] rfl ?_
  refine lpF_s (P := fun (v : Int32 × Int32) => G 4 [(0, .ref (sq Y 0)), (1, .int a0), (2, .int v.1), (3, .int v.2)] [] μ) hf (fun v z1 hf kI1 kX1 => ?_)
  obtain ⟨x2_2, x3_3⟩ := v
  replace hf : f_X8_disorder_L4 a0 μ x2_2 x3_3 = some z1 := hf
  show G 4 [(0, .ref (sq Y 0)), (1, .int a0), (2, .int x2_2), (3, .int x3_3)] [] μ
  unfold f_X8_disorder_L4 at hf
  refine g_iload_n Γ (pc := 4) 3 dX8_disorder_4 rfl rfl ?_
  refine g_aload_n Γ (pc := 5) 0 dX8_disorder_5 rfl rfl ?_
  refine g_get Γ (pc := 6) (v := .ref (sq Y 1)) dX8_disorder_6 (M_obj hM) fr_X8_7 rfl ?_
  refine g_iconst Γ (pc := 9) (v := 0) dX8_disorder_9 rfl ?_
  refine g_iald Γ (pc := 10) dX8_disorder_10 (M_1 hM) hf (fun v4 hf => ?_)
  refine g_icmp_ge Γ (pc := 11) (tgt := 46) dX8_disorder_11 rfl hf (fun hf => ?_) (fun hf => ?_)
  · refine g_sub Γ [2] rfl ?_
    exact K_4_46 x2_2 (kX1 x2_2 (Option.some.inj hf).symm)
  · refine g_iload_n Γ (pc := 14) 2 dX8_disorder_14 rfl rfl ?_
    refine g_aload_n Γ (pc := 15) 0 dX8_disorder_15 rfl rfl ?_
    refine g_iload_n Γ (pc := 16) 3 dX8_disorder_16 rfl rfl ?_
    refine g_iload_n Γ (pc := 17) 1 dX8_disorder_17 rfl rfl ?_
    obtain ⟨v5, h1, hf⟩ := bn1_i hf
    refine g_callVI Γ (pc := 18) (as := [.int x3_3, .int a0]) (st := [.int x2_2]) dX8_disorder_18 (c_X8_offBy hM h1) (M_obj hM) rfl mi_X8_offBy mv_X8_offBy kM_X8_98 rfl ⟨Nat.le_of_ble_eq_true rfl, Nat.le_of_ble_eq_true rfl⟩ rfl (Nat.le_of_ble_eq_true rfl) ?_
    refine g_aload_n Γ (pc := 21) 0 dX8_disorder_21 rfl rfl ?_
    refine g_get Γ (pc := 22) (v := .ref (sq Y 1)) dX8_disorder_22 (M_obj hM) fr_X8_7 rfl ?_
    refine g_bipush Γ (pc := 25) (v := 6) dX8_disorder_25 rfl ?_
    refine g_iald Γ (pc := 27) dX8_disorder_27 (M_1 hM) hf (fun v6 hf => ?_)
    have J_38 : ∀ (s7 : Int32), f_X8_disorder_J38 x2_2 x3_3 s7 = some z1 → G 38 [(0, .ref (sq Y 0)), (1, .int a0), (3, .int x3_3)] [.int s7, .int x2_2] μ := by
      intro s7 hf
      unfold f_X8_disorder_J38 at hf
      refine g_ior Γ (pc := 38) dX8_disorder_38 ?_
      refine g_istore_n Γ (pc := 39) (lv' := [(2, .int (x2_2 ||| s7)), (0, .ref (sq Y 0)), (1, .int a0), (3, .int x3_3)]) dX8_disorder_39 rfl (by decide) rfl ?_
      refine g_iinc Γ (pc := 40) (v := x3_3 + 1) (lv' := [(3, .int (x3_3 + 1)), (2, .int (x2_2 ||| s7)), (0, .ref (sq Y 0)), (1, .int a0)]) 3 dX8_disorder_40 rfl rfl (by decide) rfl ?_
      refine g_goto Γ (pc := 43) (tgt := 4) dX8_disorder_43 rfl ?_
      refine g_sub Γ [2, 3, 1, 0] rfl ?_
      exact kI1 ((x2_2 ||| s7), x3_3 + 1) (Option.some.inj hf).symm
    refine g_icmp_le Γ (pc := 28) (tgt := 37) dX8_disorder_28 rfl hf (fun hf => ?_) (fun hf => ?_)
    · refine g_iconst Γ (pc := 37) (v := 0) dX8_disorder_37 rfl ?_
      refine g_sub Γ [0, 1, 3] rfl ?_
      exact J_38 0 hf
    · refine g_iconst Γ (pc := 31) (v := 1) dX8_disorder_31 rfl ?_
      refine g_iload_n Γ (pc := 32) 3 dX8_disorder_32 rfl rfl ?_
      refine g_ishl Γ (pc := 33) dX8_disorder_33 ?_
      refine g_goto Γ (pc := 34) (tgt := 38) dX8_disorder_34 rfl ?_
      refine g_sub Γ [0, 1, 3] rfl ?_
      exact J_38 (1 <<< (x3_3 &&& 31)) hf
def f_X8_oddOnes_K4_36 (y1_1 : Int32) : Option (Int32) :=
  some y1_1
def f_X8_oddOnes_L4 (μ : Mem) (x1_2 : Int32) (x2_3 : Int32) : Option ((Int32 × Int32) ⊕ Int32) :=
  bn1 (ldM (μ 1) 3059 0) fun v4 =>
  if v4 ≤ x2_3 then
    some (.inr x1_2)
  else
    bn1 (f_X8_of x2_3 4 μ) fun v5 =>
    bn1 (f_X8_manyIn v5) fun v6 =>
    nm (x1_2 ||| ((v6 &&& 1) <<< (x2_3 &&& 31))) fun e7 =>
    some (.inl (e7, x2_3 + 1))
def f_X8_oddOnes (μ : Mem) : Option (Int32) :=
  bn1 (lpF (fun v => f_X8_oddOnes_L4 μ v.1 v.2) 4000 (0, 0)) (fun x => f_X8_oddOnes_K4_36 x)
set_option maxRecDepth 100000 in
set_option maxHeartbeats 4000000 in
theorem c_X8_oddOnes {Y : SYS} (hM : IsM Y) {μ : Mem} {x : Int32} (hf : f_X8_oddOnes μ = some x) : KC Y yX8_oddOnes cX8_oddOnes 3 (some .int) 1 [.ref (sq Y 0)] μ (some (.int x)) μ := by
  refine KC.I RX8 [(0, .ref (sq Y 0))] (by decide) rfl (Nat.le_of_ble_eq_true rfl) rfl (fun G Γ ret => ?_)
  unfold f_X8_oddOnes at hf
  refine g_iconst Γ (pc := 0) (v := 0) dX8_oddOnes_0 rfl ?_
  refine g_istore_n Γ (pc := 1) (lv' := [(1, .int 0), (0, .ref (sq Y 0))]) dX8_oddOnes_1 rfl (by decide) rfl ?_
  refine g_iconst Γ (pc := 2) (v := 0) dX8_oddOnes_2 rfl ?_
  refine g_istore_n Γ (pc := 3) (lv' := [(2, .int 0), (1, .int 0), (0, .ref (sq Y 0))]) dX8_oddOnes_3 rfl (by decide) rfl ?_
  have K_4_36 : ∀ (y1_1 : Int32), f_X8_oddOnes_K4_36 y1_1 = some x → G 36 [(1, .int y1_1)] [] μ := by
    intro y1_1 hf
    unfold f_X8_oddOnes_K4_36 at hf
    refine g_iload_n Γ (pc := 36) 0 dX8_oddOnes_36 rfl rfl ?_
    exact rIr ret dX8_oddOnes_37 hf
  refine g_sub Γ [2, 1, 0] rfl ?_
  refine lpF_s (P := fun (v : Int32 × Int32) => G 4 [(0, .ref (sq Y 0)), (1, .int v.1), (2, .int v.2)] [] μ) hf (fun v z1 hf kI1 kX1 => ?_)
  obtain ⟨x1_2, x2_3⟩ := v
  replace hf : f_X8_oddOnes_L4 μ x1_2 x2_3 = some z1 := hf
  show G 4 [(0, .ref (sq Y 0)), (1, .int x1_2), (2, .int x2_3)] [] μ
  unfold f_X8_oddOnes_L4 at hf
  refine g_iload_n Γ (pc := 4) 2 dX8_oddOnes_4 rfl rfl ?_
  refine g_aload_n Γ (pc := 5) 0 dX8_oddOnes_5 rfl rfl ?_
  refine g_get Γ (pc := 6) (v := .ref (sq Y 1)) dX8_oddOnes_6 (M_obj hM) fr_X8_7 rfl ?_
  refine g_iconst Γ (pc := 9) (v := 0) dX8_oddOnes_9 rfl ?_
  refine g_iald Γ (pc := 10) dX8_oddOnes_10 (M_1 hM) hf (fun v4 hf => ?_)
  refine g_icmp_ge Γ (pc := 11) (tgt := 36) dX8_oddOnes_11 rfl hf (fun hf => ?_) (fun hf => ?_)
  · refine g_sub Γ [1] rfl ?_
    exact K_4_36 x1_2 (kX1 x1_2 (Option.some.inj hf).symm)
  · refine g_iload_n Γ (pc := 14) 1 dX8_oddOnes_14 rfl rfl ?_
    refine g_aload_n Γ (pc := 15) 0 dX8_oddOnes_15 rfl rfl ?_
    refine g_iload_n Γ (pc := 16) 2 dX8_oddOnes_16 rfl rfl ?_
    refine g_iconst Γ (pc := 17) (v := 4) dX8_oddOnes_17 rfl ?_
    obtain ⟨v5, h1, hf⟩ := bn1_i hf
    refine g_callVI Γ (pc := 18) (as := [.int x2_3, .int 4]) (st := [.int x1_2]) dX8_oddOnes_18 (c_X8_of hM h1) (M_obj hM) rfl mi_X8_of mv_X8_of kM_X8_83 rfl ⟨Nat.le_of_ble_eq_true rfl, Nat.le_of_ble_eq_true rfl⟩ rfl (Nat.le_of_ble_eq_true rfl) ?_
    obtain ⟨v6, h1, hf⟩ := bn1_i hf
    refine g_callSI Γ (pc := 21) (as := [.int v5]) (st := [.int x1_2]) dX8_oddOnes_21 (c_X8_manyIn h1) mi_X8_manyIn ms_X8_manyIn kM_X8_87 rfl ⟨Nat.le_of_ble_eq_true rfl, Nat.le_of_ble_eq_true rfl⟩ rfl (Nat.le_of_ble_eq_true rfl) ?_
    refine g_iconst Γ (pc := 24) (v := 1) dX8_oddOnes_24 rfl ?_
    refine g_iand Γ (pc := 25) dX8_oddOnes_25 ?_
    refine g_iload_n Γ (pc := 26) 2 dX8_oddOnes_26 rfl rfl ?_
    refine g_ishl Γ (pc := 27) dX8_oddOnes_27 ?_
    refine g_ior Γ (pc := 28) dX8_oddOnes_28 ?_
    refine g_nmi hf (fun e7 hf => ?_)
    refine g_istore_n Γ (pc := 29) (lv' := [(1, .int e7), (0, .ref (sq Y 0)), (2, .int x2_3)]) dX8_oddOnes_29 rfl (by decide) rfl ?_
    refine g_iinc Γ (pc := 30) (v := x2_3 + 1) (lv' := [(2, .int (x2_3 + 1)), (1, .int e7), (0, .ref (sq Y 0))]) 2 dX8_oddOnes_30 rfl rfl (by decide) rfl ?_
    refine g_goto Γ (pc := 33) (tgt := 4) dX8_oddOnes_33 rfl ?_
    refine g_sub Γ [2, 1, 0] rfl ?_
    exact kI1 (e7, x2_3 + 1) (Option.some.inj hf).symm
def f_X8_town (a0 : Int32) (μ : Mem) : Option (Int32) :=
  if a0 = 0 then
    bn1 (f_X8_allOff μ) fun v7 =>
    some v7
  else
    if a0 = 1 then
      bn1 (ldM (μ 1) 3059 3) fun v6 =>
      some v6
    else
      if a0 = 2 then
        bn1 (ldM (μ 1) 3059 4) fun v5 =>
        some v5
      else
        if a0 = 3 then
          bn1 (f_X8_forNow μ) fun v4 =>
          some v4
        else
          if a0 = 4 then
            bn1 (f_X8_forNow μ) fun v2 =>
            bn1 (f_X8_disorder v2 μ) fun v3 =>
            some v3
          else
            if a0 = 5 then
              bn1 (f_X8_oddOnes μ) fun v1 =>
              some v1
            else
              some (-1000000001)
set_option maxRecDepth 100000 in
set_option maxHeartbeats 4000000 in
theorem c_X8_town {Y : SYS} (hM : IsM Y) {a0 : Int32} {μ : Mem} {x : Int32} (hf : f_X8_town a0 μ = some x) : KC Y yX8_town cX8_town 2 (some .int) 4 [.ref (sq Y 0), .int a0] μ (some (.int x)) μ := by
  refine KC.I RX8 [(0, .ref (sq Y 0)), (1, .int a0)] (by decide) rfl (Nat.le_of_ble_eq_true rfl) rfl (fun G Γ ret => ?_)
  unfold f_X8_town at hf
  refine g_iload_n Γ (pc := 0) 1 dX8_town_0 rfl rfl ?_
  by_cases h1_0 : a0 = 0
  · replace hf := ite_t h1_0 hf
    refine g_tin Γ (pc := 1) (tgt := 40) 0 dX8_town_1 h1_0 (by decide) (by decide) rfl rfl ?_
    refine g_aload_n Γ (pc := 40) 0 dX8_town_40 rfl rfl ?_
    obtain ⟨v7, h1, hf⟩ := bn1_i hf
    refine g_callVI Γ (pc := 41) (as := []) (st := []) dX8_town_41 (c_X8_allOff hM h1) (M_obj hM) rfl mi_X8_allOff mv_X8_allOff kM_X8_158 rfl ⟨Nat.le_of_ble_eq_true rfl, Nat.le_of_ble_eq_true rfl⟩ rfl (Nat.le_of_ble_eq_true rfl) ?_
    exact rIr ret dX8_town_44 hf
  · replace hf := ite_f h1_0 hf
    by_cases h1_1 : a0 = 1
    · replace hf := ite_t h1_1 hf
      refine g_tin Γ (pc := 1) (tgt := 45) 1 dX8_town_1 h1_1 (by decide) (by decide) rfl rfl ?_
      refine g_aload_n Γ (pc := 45) 0 dX8_town_45 rfl rfl ?_
      refine g_get Γ (pc := 46) (v := .ref (sq Y 1)) dX8_town_46 (M_obj hM) fr_X8_7 rfl ?_
      refine g_iconst Γ (pc := 49) (v := 3) dX8_town_49 rfl ?_
      refine g_iald Γ (pc := 50) dX8_town_50 (M_1 hM) hf (fun v6 hf => ?_)
      exact rIr ret dX8_town_51 hf
    · replace hf := ite_f h1_1 hf
      by_cases h1_2 : a0 = 2
      · replace hf := ite_t h1_2 hf
        refine g_tin Γ (pc := 1) (tgt := 52) 2 dX8_town_1 h1_2 (by decide) (by decide) rfl rfl ?_
        refine g_aload_n Γ (pc := 52) 0 dX8_town_52 rfl rfl ?_
        refine g_get Γ (pc := 53) (v := .ref (sq Y 1)) dX8_town_53 (M_obj hM) fr_X8_7 rfl ?_
        refine g_iconst Γ (pc := 56) (v := 4) dX8_town_56 rfl ?_
        refine g_iald Γ (pc := 57) dX8_town_57 (M_1 hM) hf (fun v5 hf => ?_)
        exact rIr ret dX8_town_58 hf
      · replace hf := ite_f h1_2 hf
        by_cases h1_3 : a0 = 3
        · replace hf := ite_t h1_3 hf
          refine g_tin Γ (pc := 1) (tgt := 59) 3 dX8_town_1 h1_3 (by decide) (by decide) rfl rfl ?_
          refine g_aload_n Γ (pc := 59) 0 dX8_town_59 rfl rfl ?_
          obtain ⟨v4, h1, hf⟩ := bn1_i hf
          refine g_callVI Γ (pc := 60) (as := []) (st := []) dX8_town_60 (c_X8_forNow hM h1) (M_obj hM) rfl mi_X8_forNow mv_X8_forNow kM_X8_94 rfl ⟨Nat.le_of_ble_eq_true rfl, Nat.le_of_ble_eq_true rfl⟩ rfl (Nat.le_of_ble_eq_true rfl) ?_
          exact rIr ret dX8_town_63 hf
        · replace hf := ite_f h1_3 hf
          by_cases h1_4 : a0 = 4
          · replace hf := ite_t h1_4 hf
            refine g_tin Γ (pc := 1) (tgt := 64) 4 dX8_town_1 h1_4 (by decide) (by decide) rfl rfl ?_
            refine g_aload_n Γ (pc := 64) 0 dX8_town_64 rfl rfl ?_
            refine g_aload_n Γ (pc := 65) 0 dX8_town_65 rfl rfl ?_
            obtain ⟨v2, h1, hf⟩ := bn1_i hf
            refine g_callVI Γ (pc := 66) (as := []) (st := [.ref (sq Y 0)]) dX8_town_66 (c_X8_forNow hM h1) (M_obj hM) rfl mi_X8_forNow mv_X8_forNow kM_X8_94 rfl ⟨Nat.le_of_ble_eq_true rfl, Nat.le_of_ble_eq_true rfl⟩ rfl (Nat.le_of_ble_eq_true rfl) ?_
            obtain ⟨v3, h1, hf⟩ := bn1_i hf
            refine g_callVI Γ (pc := 69) (as := [.int v2]) (st := []) dX8_town_69 (c_X8_disorder hM h1) (M_obj hM) rfl mi_X8_disorder mv_X8_disorder kM_X8_161 rfl ⟨Nat.le_of_ble_eq_true rfl, Nat.le_of_ble_eq_true rfl⟩ rfl (Nat.le_of_ble_eq_true rfl) ?_
            exact rIr ret dX8_town_72 hf
          · replace hf := ite_f h1_4 hf
            by_cases h1_5 : a0 = 5
            · replace hf := ite_t h1_5 hf
              refine g_tin Γ (pc := 1) (tgt := 73) 5 dX8_town_1 h1_5 (by decide) (by decide) rfl rfl ?_
              refine g_aload_n Γ (pc := 73) 0 dX8_town_73 rfl rfl ?_
              obtain ⟨v1, h1, hf⟩ := bn1_i hf
              refine g_callVI Γ (pc := 74) (as := []) (st := []) dX8_town_74 (c_X8_oddOnes hM h1) (M_obj hM) rfl mi_X8_oddOnes mv_X8_oddOnes kM_X8_164 rfl ⟨Nat.le_of_ble_eq_true rfl, Nat.le_of_ble_eq_true rfl⟩ rfl (Nat.le_of_ble_eq_true rfl) ?_
              exact rIr ret dX8_town_77 hf
            · replace hf := ite_f h1_5 hf
              refine g_tableOut Γ (pc := 1) (tgt := 78) dX8_town_1 (by have e0 := ne_ti (k := 0) rfl h1_0; have e1 := ne_ti (k := 1) rfl h1_1; have e2 := ne_ti (k := 2) rfl h1_2; have e3 := ne_ti (k := 3) rfl h1_3; have e4 := ne_ti (k := 4) rfl h1_4; have e5 := ne_ti (k := 5) rfl h1_5; omega) rfl ?_
              refine g_ldc Γ (pc := 78) dX8_town_78 kK_X8_78 ?_
              exact rIr ret dX8_town_80 hf
def f_X8_fixedOnes_K4_40 (y1_1 : Int32) : Option (Int32) :=
  some y1_1
def f_X8_fixedOnes_J32 (x1_2 : Int32) (x2_3 : Int32) (s6 : Int32) : Option ((Int32 × Int32) ⊕ Int32) :=
  some (.inl ((x1_2 ||| s6), x2_3 + 1))
def f_X8_fixedOnes_L4 (μ : Mem) (x1_2 : Int32) (x2_3 : Int32) : Option ((Int32 × Int32) ⊕ Int32) :=
  bn1 (ldM (μ 1) 3059 0) fun v4 =>
  if v4 ≤ x2_3 then
    some (.inr x1_2)
  else
    bn1 (f_X8_of x2_3 0 μ) fun v5 =>
    if v5 = 5 then
      f_X8_fixedOnes_J32 x1_2 x2_3 (1 <<< (x2_3 &&& 31))
    else
      f_X8_fixedOnes_J32 x1_2 x2_3 0
def f_X8_fixedOnes (μ : Mem) : Option (Int32) :=
  bn1 (lpF (fun v => f_X8_fixedOnes_L4 μ v.1 v.2) 4000 (0, 0)) (fun x => f_X8_fixedOnes_K4_40 x)
set_option maxRecDepth 100000 in
set_option maxHeartbeats 4000000 in
theorem c_X8_fixedOnes {Y : SYS} (hM : IsM Y) {μ : Mem} {x : Int32} (hf : f_X8_fixedOnes μ = some x) : KC Y yX8_fixedOnes cX8_fixedOnes 3 (some .int) 1 [.ref (sq Y 0)] μ (some (.int x)) μ := by
  refine KC.I RX8 [(0, .ref (sq Y 0))] (by decide) rfl (Nat.le_of_ble_eq_true rfl) rfl (fun G Γ ret => ?_)
  unfold f_X8_fixedOnes at hf
  refine g_iconst Γ (pc := 0) (v := 0) dX8_fixedOnes_0 rfl ?_
  refine g_istore_n Γ (pc := 1) (lv' := [(1, .int 0), (0, .ref (sq Y 0))]) dX8_fixedOnes_1 rfl (by decide) rfl ?_
  refine g_iconst Γ (pc := 2) (v := 0) dX8_fixedOnes_2 rfl ?_
  refine g_istore_n Γ (pc := 3) (lv' := [(2, .int 0), (1, .int 0), (0, .ref (sq Y 0))]) dX8_fixedOnes_3 rfl (by decide) rfl ?_
  have K_4_40 : ∀ (y1_1 : Int32), f_X8_fixedOnes_K4_40 y1_1 = some x → G 40 [(1, .int y1_1)] [] μ := by
    intro y1_1 hf
    unfold f_X8_fixedOnes_K4_40 at hf
    refine g_iload_n Γ (pc := 40) 0 dX8_fixedOnes_40 rfl rfl ?_
    exact rIr ret dX8_fixedOnes_41 hf
  refine g_sub Γ [2, 1, 0] rfl ?_
  refine lpF_s (P := fun (v : Int32 × Int32) => G 4 [(0, .ref (sq Y 0)), (1, .int v.1), (2, .int v.2)] [] μ) hf (fun v z1 hf kI1 kX1 => ?_)
  obtain ⟨x1_2, x2_3⟩ := v
  replace hf : f_X8_fixedOnes_L4 μ x1_2 x2_3 = some z1 := hf
  show G 4 [(0, .ref (sq Y 0)), (1, .int x1_2), (2, .int x2_3)] [] μ
  unfold f_X8_fixedOnes_L4 at hf
  refine g_iload_n Γ (pc := 4) 2 dX8_fixedOnes_4 rfl rfl ?_
  refine g_aload_n Γ (pc := 5) 0 dX8_fixedOnes_5 rfl rfl ?_
  refine g_get Γ (pc := 6) (v := .ref (sq Y 1)) dX8_fixedOnes_6 (M_obj hM) fr_X8_7 rfl ?_
  refine g_iconst Γ (pc := 9) (v := 0) dX8_fixedOnes_9 rfl ?_
  refine g_iald Γ (pc := 10) dX8_fixedOnes_10 (M_1 hM) hf (fun v4 hf => ?_)
  refine g_icmp_ge Γ (pc := 11) (tgt := 40) dX8_fixedOnes_11 rfl hf (fun hf => ?_) (fun hf => ?_)
  · refine g_sub Γ [1] rfl ?_
    exact K_4_40 x1_2 (kX1 x1_2 (Option.some.inj hf).symm)
  · refine g_iload_n Γ (pc := 14) 1 dX8_fixedOnes_14 rfl rfl ?_
    refine g_aload_n Γ (pc := 15) 0 dX8_fixedOnes_15 rfl rfl ?_
    refine g_iload_n Γ (pc := 16) 2 dX8_fixedOnes_16 rfl rfl ?_
    refine g_iconst Γ (pc := 17) (v := 0) dX8_fixedOnes_17 rfl ?_
    obtain ⟨v5, h1, hf⟩ := bn1_i hf
    refine g_callVI Γ (pc := 18) (as := [.int x2_3, .int 0]) (st := [.int x1_2]) dX8_fixedOnes_18 (c_X8_of hM h1) (M_obj hM) rfl mi_X8_of mv_X8_of kM_X8_83 rfl ⟨Nat.le_of_ble_eq_true rfl, Nat.le_of_ble_eq_true rfl⟩ rfl (Nat.le_of_ble_eq_true rfl) ?_
    refine g_iconst Γ (pc := 21) (v := 5) dX8_fixedOnes_21 rfl ?_
    have J_32 : ∀ (s6 : Int32), f_X8_fixedOnes_J32 x1_2 x2_3 s6 = some z1 → G 32 [(0, .ref (sq Y 0)), (2, .int x2_3)] [.int s6, .int x1_2] μ := by
      intro s6 hf
      unfold f_X8_fixedOnes_J32 at hf
      refine g_ior Γ (pc := 32) dX8_fixedOnes_32 ?_
      refine g_istore_n Γ (pc := 33) (lv' := [(1, .int (x1_2 ||| s6)), (0, .ref (sq Y 0)), (2, .int x2_3)]) dX8_fixedOnes_33 rfl (by decide) rfl ?_
      refine g_iinc Γ (pc := 34) (v := x2_3 + 1) (lv' := [(2, .int (x2_3 + 1)), (1, .int (x1_2 ||| s6)), (0, .ref (sq Y 0))]) 2 dX8_fixedOnes_34 rfl rfl (by decide) rfl ?_
      refine g_goto Γ (pc := 37) (tgt := 4) dX8_fixedOnes_37 rfl ?_
      refine g_sub Γ [2, 1, 0] rfl ?_
      exact kI1 ((x1_2 ||| s6), x2_3 + 1) (Option.some.inj hf).symm
    refine g_icmp_ne Γ (pc := 22) (tgt := 31) dX8_fixedOnes_22 rfl hf (fun hf => ?_) (fun hf => ?_)
    · refine g_iconst Γ (pc := 31) (v := 0) dX8_fixedOnes_31 rfl ?_
      refine g_sub Γ [0, 2] rfl ?_
      exact J_32 0 hf
    · refine g_iconst Γ (pc := 25) (v := 1) dX8_fixedOnes_25 rfl ?_
      refine g_iload_n Γ (pc := 26) 2 dX8_fixedOnes_26 rfl rfl ?_
      refine g_ishl Γ (pc := 27) dX8_fixedOnes_27 ?_
      refine g_goto Γ (pc := 28) (tgt := 32) dX8_fixedOnes_28 rfl ?_
      refine g_sub Γ [0, 2] rfl ?_
      exact J_32 (1 <<< (x2_3 &&& 31)) hf
def f_X8_isWay (a0 : Int32) (μ : Mem) : Option (Int32) :=
  bn1 (f_X8_forNow μ) fun v1 =>
  bn1 (f_X8_fixedOnes μ) fun v2 =>
  if ((a0 ^^^ v1) &&& v2) = 0 then
    bn1 (f_X8_disorder a0 μ) fun v3 =>
    if v3 = 0 then
      some 1
    else
      some 0
  else
    some 0
set_option maxRecDepth 100000 in
set_option maxHeartbeats 4000000 in
theorem c_X8_isWay {Y : SYS} (hM : IsM Y) {a0 : Int32} {μ : Mem} {x : Int32} (hf : f_X8_isWay a0 μ = some x) : KC Y yX8_isWay cX8_isWay 2 (some .boolean) 3 [.ref (sq Y 0), .int a0] μ (some (.int x)) μ := by
  refine KC.Z RX8 [(0, .ref (sq Y 0)), (1, .int a0)] (by decide) rfl (Nat.le_of_ble_eq_true rfl) rfl (fun G Γ ret => ?_)
  unfold f_X8_isWay at hf
  refine g_iload_n Γ (pc := 0) 1 dX8_isWay_0 rfl rfl ?_
  refine g_aload_n Γ (pc := 1) 0 dX8_isWay_1 rfl rfl ?_
  obtain ⟨v1, h1, hf⟩ := bn1_i hf
  refine g_callVI Γ (pc := 2) (as := []) (st := [.int a0]) dX8_isWay_2 (c_X8_forNow hM h1) (M_obj hM) rfl mi_X8_forNow mv_X8_forNow kM_X8_94 rfl ⟨Nat.le_of_ble_eq_true rfl, Nat.le_of_ble_eq_true rfl⟩ rfl (Nat.le_of_ble_eq_true rfl) ?_
  refine g_ixor Γ (pc := 5) dX8_isWay_5 ?_
  refine g_aload_n Γ (pc := 6) 0 dX8_isWay_6 rfl rfl ?_
  obtain ⟨v2, h1, hf⟩ := bn1_i hf
  refine g_callVI Γ (pc := 7) (as := []) (st := [.int (a0 ^^^ v1)]) dX8_isWay_7 (c_X8_fixedOnes hM h1) (M_obj hM) rfl mi_X8_fixedOnes mv_X8_fixedOnes kM_X8_167 rfl ⟨Nat.le_of_ble_eq_true rfl, Nat.le_of_ble_eq_true rfl⟩ rfl (Nat.le_of_ble_eq_true rfl) ?_
  refine g_iand Γ (pc := 10) dX8_isWay_10 ?_
  refine g_if_ne Γ (pc := 11) (tgt := 26) dX8_isWay_11 rfl hf (fun hf => ?_) (fun hf => ?_)
  · refine g_iconst Γ (pc := 26) (v := 0) dX8_isWay_26 rfl ?_
    exact rZkr ret dX8_isWay_27 (Or.inl rfl) hf
  · refine g_aload_n Γ (pc := 14) 0 dX8_isWay_14 rfl rfl ?_
    refine g_iload_n Γ (pc := 15) 1 dX8_isWay_15 rfl rfl ?_
    obtain ⟨v3, h1, hf⟩ := bn1_i hf
    refine g_callVI Γ (pc := 16) (as := [.int a0]) (st := []) dX8_isWay_16 (c_X8_disorder hM h1) (M_obj hM) rfl mi_X8_disorder mv_X8_disorder kM_X8_161 rfl ⟨Nat.le_of_ble_eq_true rfl, Nat.le_of_ble_eq_true rfl⟩ rfl (Nat.le_of_ble_eq_true rfl) ?_
    refine g_if_ne Γ (pc := 19) (tgt := 26) dX8_isWay_19 rfl hf (fun hf => ?_) (fun hf => ?_)
    · refine g_iconst Γ (pc := 26) (v := 0) dX8_isWay_26 rfl ?_
      exact rZkr ret dX8_isWay_27 (Or.inl rfl) hf
    · refine g_iconst Γ (pc := 22) (v := 1) dX8_isWay_22 rfl ?_
      refine g_goto Γ (pc := 23) (tgt := 27) dX8_isWay_23 rfl ?_
      exact rZkr ret dX8_isWay_27 (Or.inr rfl) hf
def f_X8_ways_K4_38 (y1_1 : Int32) : Option (Int32) :=
  some y1_1
def f_X8_ways_J30 (x1_2 : Int32) (x2_3 : Int32) (s6 : Int32) : Option ((Int32 × Int32) ⊕ Int32) :=
  some (.inl ((x1_2 + s6), x2_3 + 1))
def f_X8_ways_L4 (μ : Mem) (x1_2 : Int32) (x2_3 : Int32) : Option ((Int32 × Int32) ⊕ Int32) :=
  bn1 (ldM (μ 1) 3059 0) fun v4 =>
  if (1 <<< (v4 &&& 31)) ≤ x2_3 then
    some (.inr x1_2)
  else
    bn1 (f_X8_isWay x2_3 μ) fun v5 =>
    if v5 = 0 then
      f_X8_ways_J30 x1_2 x2_3 0
    else
      f_X8_ways_J30 x1_2 x2_3 1
def f_X8_ways (μ : Mem) : Option (Int32) :=
  bn1 (lpF (fun v => f_X8_ways_L4 μ v.1 v.2) 4000 (0, 0)) (fun x => f_X8_ways_K4_38 x)
set_option maxRecDepth 100000 in
set_option maxHeartbeats 4000000 in
theorem c_X8_ways {Y : SYS} (hM : IsM Y) {μ : Mem} {x : Int32} (hf : f_X8_ways μ = some x) : KC Y yX8_ways cX8_ways 3 (some .int) 4 [.ref (sq Y 0)] μ (some (.int x)) μ := by
  refine KC.I RX8 [(0, .ref (sq Y 0))] (by decide) rfl (Nat.le_of_ble_eq_true rfl) rfl (fun G Γ ret => ?_)
  unfold f_X8_ways at hf
  refine g_iconst Γ (pc := 0) (v := 0) dX8_ways_0 rfl ?_
  refine g_istore_n Γ (pc := 1) (lv' := [(1, .int 0), (0, .ref (sq Y 0))]) dX8_ways_1 rfl (by decide) rfl ?_
  refine g_iconst Γ (pc := 2) (v := 0) dX8_ways_2 rfl ?_
  refine g_istore_n Γ (pc := 3) (lv' := [(2, .int 0), (1, .int 0), (0, .ref (sq Y 0))]) dX8_ways_3 rfl (by decide) rfl ?_
  have K_4_38 : ∀ (y1_1 : Int32), f_X8_ways_K4_38 y1_1 = some x → G 38 [(1, .int y1_1)] [] μ := by
    intro y1_1 hf
    unfold f_X8_ways_K4_38 at hf
    refine g_iload_n Γ (pc := 38) 0 dX8_ways_38 rfl rfl ?_
    exact rIr ret dX8_ways_39 hf
  refine g_sub Γ [2, 1, 0] rfl ?_
  refine lpF_s (P := fun (v : Int32 × Int32) => G 4 [(0, .ref (sq Y 0)), (1, .int v.1), (2, .int v.2)] [] μ) hf (fun v z1 hf kI1 kX1 => ?_)
  obtain ⟨x1_2, x2_3⟩ := v
  replace hf : f_X8_ways_L4 μ x1_2 x2_3 = some z1 := hf
  show G 4 [(0, .ref (sq Y 0)), (1, .int x1_2), (2, .int x2_3)] [] μ
  unfold f_X8_ways_L4 at hf
  refine g_iload_n Γ (pc := 4) 2 dX8_ways_4 rfl rfl ?_
  refine g_iconst Γ (pc := 5) (v := 1) dX8_ways_5 rfl ?_
  refine g_aload_n Γ (pc := 6) 0 dX8_ways_6 rfl rfl ?_
  refine g_get Γ (pc := 7) (v := .ref (sq Y 1)) dX8_ways_7 (M_obj hM) fr_X8_7 rfl ?_
  refine g_iconst Γ (pc := 10) (v := 0) dX8_ways_10 rfl ?_
  refine g_iald Γ (pc := 11) dX8_ways_11 (M_1 hM) hf (fun v4 hf => ?_)
  refine g_ishl Γ (pc := 12) dX8_ways_12 ?_
  refine g_icmp_ge Γ (pc := 13) (tgt := 38) dX8_ways_13 rfl hf (fun hf => ?_) (fun hf => ?_)
  · refine g_sub Γ [1] rfl ?_
    exact K_4_38 x1_2 (kX1 x1_2 (Option.some.inj hf).symm)
  · refine g_iload_n Γ (pc := 16) 1 dX8_ways_16 rfl rfl ?_
    refine g_aload_n Γ (pc := 17) 0 dX8_ways_17 rfl rfl ?_
    refine g_iload_n Γ (pc := 18) 2 dX8_ways_18 rfl rfl ?_
    obtain ⟨v5, h1, hf⟩ := bn1_i hf
    refine g_callVI Γ (pc := 19) (as := [.int x2_3]) (st := [.int x1_2]) dX8_ways_19 (c_X8_isWay hM h1) (M_obj hM) rfl mi_X8_isWay mv_X8_isWay kM_X8_170 rfl ⟨Nat.le_of_ble_eq_true rfl, Nat.le_of_ble_eq_true rfl⟩ rfl (Nat.le_of_ble_eq_true rfl) ?_
    have J_30 : ∀ (s6 : Int32), f_X8_ways_J30 x1_2 x2_3 s6 = some z1 → G 30 [(0, .ref (sq Y 0)), (2, .int x2_3)] [.int s6, .int x1_2] μ := by
      intro s6 hf
      unfold f_X8_ways_J30 at hf
      refine g_iadd Γ (pc := 30) dX8_ways_30 ?_
      refine g_istore_n Γ (pc := 31) (lv' := [(1, .int (x1_2 + s6)), (0, .ref (sq Y 0)), (2, .int x2_3)]) dX8_ways_31 rfl (by decide) rfl ?_
      refine g_iinc Γ (pc := 32) (v := x2_3 + 1) (lv' := [(2, .int (x2_3 + 1)), (1, .int (x1_2 + s6)), (0, .ref (sq Y 0))]) 2 dX8_ways_32 rfl rfl (by decide) rfl ?_
      refine g_goto Γ (pc := 35) (tgt := 4) dX8_ways_35 rfl ?_
      refine g_sub Γ [2, 1, 0] rfl ?_
      exact kI1 ((x1_2 + s6), x2_3 + 1) (Option.some.inj hf).symm
    refine g_if_eq Γ (pc := 22) (tgt := 29) dX8_ways_22 rfl hf (fun hf => ?_) (fun hf => ?_)
    · refine g_iconst Γ (pc := 29) (v := 0) dX8_ways_29 rfl ?_
      refine g_sub Γ [0, 2] rfl ?_
      exact J_30 0 hf
    · refine g_iconst Γ (pc := 25) (v := 1) dX8_ways_25 rfl ?_
      refine g_goto Γ (pc := 26) (tgt := 30) dX8_ways_26 rfl ?_
      refine g_sub Γ [0, 2] rfl ?_
      exact J_30 1 hf
def f_X8_price_K4_41 (y2_1 : Int32) : Option (Int32) :=
  some y2_1
def f_X8_price_J33 (x2_2 : Int32) (x3_3 : Int32) (s5 : Int32) : Option ((Int32 × Int32) ⊕ Int32) :=
  some (.inl ((x2_2 + s5), x3_3 + 1))
def f_X8_price_L4 (a0 : Int32) (μ : Mem) (x2_2 : Int32) (x3_3 : Int32) : Option ((Int32 × Int32) ⊕ Int32) :=
  bn1 (ldM (μ 1) 3059 0) fun v4 =>
  if v4 ≤ x3_3 then
    some (.inr x2_2)
  else
    if ((a0 >>> (x3_3 &&& 31)) &&& 1) = 1 then
      bn1 (f_X8_asks x3_3 μ) fun v6 =>
      f_X8_price_J33 x2_2 x3_3 v6
    else
      f_X8_price_J33 x2_2 x3_3 0
def f_X8_price (a0 : Int32) (μ : Mem) : Option (Int32) :=
  bn1 (lpF (fun v => f_X8_price_L4 a0 μ v.1 v.2) 4000 (0, 0)) (fun x => f_X8_price_K4_41 x)
set_option maxRecDepth 100000 in
set_option maxHeartbeats 4000000 in
theorem c_X8_price {Y : SYS} (hM : IsM Y) {a0 : Int32} {μ : Mem} {x : Int32} (hf : f_X8_price a0 μ = some x) : KC Y yX8_price cX8_price 4 (some .int) 2 [.ref (sq Y 0), .int a0] μ (some (.int x)) μ := by
  refine KC.I RX8 [(0, .ref (sq Y 0)), (1, .int a0)] (by decide) rfl (Nat.le_of_ble_eq_true rfl) rfl (fun G Γ ret => ?_)
  unfold f_X8_price at hf
  refine g_iconst Γ (pc := 0) (v := 0) dX8_price_0 rfl ?_
  refine g_istore_n Γ (pc := 1) (lv' := [(2, .int 0), (0, .ref (sq Y 0)), (1, .int a0)]) dX8_price_1 rfl (by decide) rfl ?_
  refine g_iconst Γ (pc := 2) (v := 0) dX8_price_2 rfl ?_
  refine g_istore_n Γ (pc := 3) (lv' := [(3, .int 0), (2, .int 0), (0, .ref (sq Y 0)), (1, .int a0)]) dX8_price_3 rfl (by decide) rfl ?_
  have K_4_41 : ∀ (y2_1 : Int32), f_X8_price_K4_41 y2_1 = some x → G 41 [(2, .int y2_1)] [] μ := by
    intro y2_1 hf
    unfold f_X8_price_K4_41 at hf
    refine g_iload_n Γ (pc := 41) 0 dX8_price_41 rfl rfl ?_
    exact rIr ret dX8_price_42 hf
  refine g_sub Γ [2, 3, 1, 0] rfl ?_
  refine lpF_s (P := fun (v : Int32 × Int32) => G 4 [(0, .ref (sq Y 0)), (1, .int a0), (2, .int v.1), (3, .int v.2)] [] μ) hf (fun v z1 hf kI1 kX1 => ?_)
  obtain ⟨x2_2, x3_3⟩ := v
  replace hf : f_X8_price_L4 a0 μ x2_2 x3_3 = some z1 := hf
  show G 4 [(0, .ref (sq Y 0)), (1, .int a0), (2, .int x2_2), (3, .int x3_3)] [] μ
  unfold f_X8_price_L4 at hf
  refine g_iload_n Γ (pc := 4) 3 dX8_price_4 rfl rfl ?_
  refine g_aload_n Γ (pc := 5) 0 dX8_price_5 rfl rfl ?_
  refine g_get Γ (pc := 6) (v := .ref (sq Y 1)) dX8_price_6 (M_obj hM) fr_X8_7 rfl ?_
  refine g_iconst Γ (pc := 9) (v := 0) dX8_price_9 rfl ?_
  refine g_iald Γ (pc := 10) dX8_price_10 (M_1 hM) hf (fun v4 hf => ?_)
  refine g_icmp_ge Γ (pc := 11) (tgt := 41) dX8_price_11 rfl hf (fun hf => ?_) (fun hf => ?_)
  · refine g_sub Γ [2] rfl ?_
    exact K_4_41 x2_2 (kX1 x2_2 (Option.some.inj hf).symm)
  · refine g_iload_n Γ (pc := 14) 2 dX8_price_14 rfl rfl ?_
    refine g_iload_n Γ (pc := 15) 1 dX8_price_15 rfl rfl ?_
    refine g_iload_n Γ (pc := 16) 3 dX8_price_16 rfl rfl ?_
    refine g_ishr Γ (pc := 17) dX8_price_17 ?_
    refine g_iconst Γ (pc := 18) (v := 1) dX8_price_18 rfl ?_
    refine g_iand Γ (pc := 19) dX8_price_19 ?_
    refine g_iconst Γ (pc := 20) (v := 1) dX8_price_20 rfl ?_
    have J_33 : ∀ (s5 : Int32), f_X8_price_J33 x2_2 x3_3 s5 = some z1 → G 33 [(0, .ref (sq Y 0)), (1, .int a0), (3, .int x3_3)] [.int s5, .int x2_2] μ := by
      intro s5 hf
      unfold f_X8_price_J33 at hf
      refine g_iadd Γ (pc := 33) dX8_price_33 ?_
      refine g_istore_n Γ (pc := 34) (lv' := [(2, .int (x2_2 + s5)), (0, .ref (sq Y 0)), (1, .int a0), (3, .int x3_3)]) dX8_price_34 rfl (by decide) rfl ?_
      refine g_iinc Γ (pc := 35) (v := x3_3 + 1) (lv' := [(3, .int (x3_3 + 1)), (2, .int (x2_2 + s5)), (0, .ref (sq Y 0)), (1, .int a0)]) 3 dX8_price_35 rfl rfl (by decide) rfl ?_
      refine g_goto Γ (pc := 38) (tgt := 4) dX8_price_38 rfl ?_
      refine g_sub Γ [2, 3, 1, 0] rfl ?_
      exact kI1 ((x2_2 + s5), x3_3 + 1) (Option.some.inj hf).symm
    refine g_icmp_ne Γ (pc := 21) (tgt := 32) dX8_price_21 rfl hf (fun hf => ?_) (fun hf => ?_)
    · refine g_iconst Γ (pc := 32) (v := 0) dX8_price_32 rfl ?_
      refine g_sub Γ [0, 1, 3] rfl ?_
      exact J_33 0 hf
    · refine g_aload_n Γ (pc := 24) 0 dX8_price_24 rfl rfl ?_
      refine g_iload_n Γ (pc := 25) 3 dX8_price_25 rfl rfl ?_
      obtain ⟨v6, h1, hf⟩ := bn1_i hf
      refine g_callVI Γ (pc := 26) (as := [.int x3_3]) (st := [.int x2_2]) dX8_price_26 (c_X8_asks hM h1) (M_obj hM) rfl mi_X8_asks mv_X8_asks kM_X8_121 rfl ⟨Nat.le_of_ble_eq_true rfl, Nat.le_of_ble_eq_true rfl⟩ rfl (Nat.le_of_ble_eq_true rfl) ?_
      refine g_goto Γ (pc := 29) (tgt := 33) dX8_price_29 rfl ?_
      refine g_sub Γ [0, 1, 3] rfl ?_
      exact J_33 v6 hf
def f_X8_cost (a0 : Int32) (a1 : Int32) (μ : Mem) : Option (Int32) :=
  if a1 = 0 then
    bn1 (f_X8_forNow μ) fun v5 =>
    bn1 (f_X8_manyIn (a0 ^^^ v5)) fun v6 =>
    some v6
  else
    if a1 = 1 then
      bn1 (f_X8_forNow μ) fun v3 =>
      bn1 (f_X8_price (a0 ^^^ v3) μ) fun v4 =>
      some v4
    else
      if a1 = 2 then
        bn1 (f_X8_manyIn a0) fun v2 =>
        some (-v2)
      else
        bn1 (f_X8_manyIn a0) fun v1 =>
        some v1
set_option maxRecDepth 100000 in
set_option maxHeartbeats 4000000 in
theorem c_X8_cost {Y : SYS} (hM : IsM Y) {a0 : Int32} {a1 : Int32} {μ : Mem} {x : Int32} (hf : f_X8_cost a0 a1 μ = some x) : KC Y yX8_cost cX8_cost 3 (some .int) 3 [.ref (sq Y 0), .int a0, .int a1] μ (some (.int x)) μ := by
  refine KC.I RX8 [(0, .ref (sq Y 0)), (1, .int a0), (2, .int a1)] (by decide) rfl (Nat.le_of_ble_eq_true rfl) rfl (fun G Γ ret => ?_)
  unfold f_X8_cost at hf
  refine g_iload_n Γ (pc := 0) 2 dX8_cost_0 rfl rfl ?_
  by_cases h1_0 : a1 = 0
  · replace hf := ite_t h1_0 hf
    refine g_tin Γ (pc := 1) (tgt := 28) 0 dX8_cost_1 h1_0 (by decide) (by decide) rfl rfl ?_
    refine g_iload_n Γ (pc := 28) 1 dX8_cost_28 rfl rfl ?_
    refine g_aload_n Γ (pc := 29) 0 dX8_cost_29 rfl rfl ?_
    obtain ⟨v5, h1, hf⟩ := bn1_i hf
    refine g_callVI Γ (pc := 30) (as := []) (st := [.int a0]) dX8_cost_30 (c_X8_forNow hM h1) (M_obj hM) rfl mi_X8_forNow mv_X8_forNow kM_X8_94 rfl ⟨Nat.le_of_ble_eq_true rfl, Nat.le_of_ble_eq_true rfl⟩ rfl (Nat.le_of_ble_eq_true rfl) ?_
    refine g_ixor Γ (pc := 33) dX8_cost_33 ?_
    obtain ⟨v6, h1, hf⟩ := bn1_i hf
    refine g_callSI Γ (pc := 34) (as := [.int (a0 ^^^ v5)]) (st := []) dX8_cost_34 (c_X8_manyIn h1) mi_X8_manyIn ms_X8_manyIn kM_X8_87 rfl ⟨Nat.le_of_ble_eq_true rfl, Nat.le_of_ble_eq_true rfl⟩ rfl (Nat.le_of_ble_eq_true rfl) ?_
    exact rIr ret dX8_cost_37 hf
  · replace hf := ite_f h1_0 hf
    by_cases h1_1 : a1 = 1
    · replace hf := ite_t h1_1 hf
      refine g_tin Γ (pc := 1) (tgt := 38) 1 dX8_cost_1 h1_1 (by decide) (by decide) rfl rfl ?_
      refine g_aload_n Γ (pc := 38) 0 dX8_cost_38 rfl rfl ?_
      refine g_iload_n Γ (pc := 39) 1 dX8_cost_39 rfl rfl ?_
      refine g_aload_n Γ (pc := 40) 0 dX8_cost_40 rfl rfl ?_
      obtain ⟨v3, h1, hf⟩ := bn1_i hf
      refine g_callVI Γ (pc := 41) (as := []) (st := [.int a0, .ref (sq Y 0)]) dX8_cost_41 (c_X8_forNow hM h1) (M_obj hM) rfl mi_X8_forNow mv_X8_forNow kM_X8_94 rfl ⟨Nat.le_of_ble_eq_true rfl, Nat.le_of_ble_eq_true rfl⟩ rfl (Nat.le_of_ble_eq_true rfl) ?_
      refine g_ixor Γ (pc := 44) dX8_cost_44 ?_
      obtain ⟨v4, h1, hf⟩ := bn1_i hf
      refine g_callVI Γ (pc := 45) (as := [.int (a0 ^^^ v3)]) (st := []) dX8_cost_45 (c_X8_price hM h1) (M_obj hM) rfl mi_X8_price mv_X8_price kM_X8_173 rfl ⟨Nat.le_of_ble_eq_true rfl, Nat.le_of_ble_eq_true rfl⟩ rfl (Nat.le_of_ble_eq_true rfl) ?_
      exact rIr ret dX8_cost_48 hf
    · replace hf := ite_f h1_1 hf
      by_cases h1_2 : a1 = 2
      · replace hf := ite_t h1_2 hf
        refine g_tin Γ (pc := 1) (tgt := 49) 2 dX8_cost_1 h1_2 (by decide) (by decide) rfl rfl ?_
        refine g_iload_n Γ (pc := 49) 1 dX8_cost_49 rfl rfl ?_
        obtain ⟨v2, h1, hf⟩ := bn1_i hf
        refine g_callSI Γ (pc := 50) (as := [.int a0]) (st := []) dX8_cost_50 (c_X8_manyIn h1) mi_X8_manyIn ms_X8_manyIn kM_X8_87 rfl ⟨Nat.le_of_ble_eq_true rfl, Nat.le_of_ble_eq_true rfl⟩ rfl (Nat.le_of_ble_eq_true rfl) ?_
        refine g_ineg Γ (pc := 53) dX8_cost_53 ?_
        exact rIr ret dX8_cost_54 hf
      · replace hf := ite_f h1_2 hf
        refine g_tableOut Γ (pc := 1) (tgt := 55) dX8_cost_1 (by have e0 := ne_ti (k := 0) rfl h1_0; have e1 := ne_ti (k := 1) rfl h1_1; have e2 := ne_ti (k := 2) rfl h1_2; omega) rfl ?_
        refine g_iload_n Γ (pc := 55) 1 dX8_cost_55 rfl rfl ?_
        obtain ⟨v1, h1, hf⟩ := bn1_i hf
        refine g_callSI Γ (pc := 56) (as := [.int a0]) (st := []) dX8_cost_56 (c_X8_manyIn h1) mi_X8_manyIn ms_X8_manyIn kM_X8_87 rfl ⟨Nat.le_of_ble_eq_true rfl, Nat.le_of_ble_eq_true rfl⟩ rfl (Nat.le_of_ble_eq_true rfl) ?_
        exact rIr ret dX8_cost_59 hf
def f_X8_orNone (a0 : Int32) : Option (Int32) :=
  if 0 ≤ a0 then
    some a0
  else
    some (-1000000005)
set_option maxRecDepth 100000 in
set_option maxHeartbeats 4000000 in
theorem c_X8_orNone {Y : SYS} {a0 : Int32} {μ : Mem} {x : Int32} (hf : f_X8_orNone a0 = some x) : KC Y yX8_orNone cX8_orNone 1 (some .int) 0 [.int a0] μ (some (.int x)) μ := by
  refine KC.I RX8 [(0, .int a0)] (by decide) rfl (Nat.le_of_ble_eq_true rfl) rfl (fun G Γ ret => ?_)
  unfold f_X8_orNone at hf
  refine g_iload_n Γ (pc := 0) 0 dX8_orNone_0 rfl rfl ?_
  refine g_if_ge Γ (pc := 1) (tgt := 9) dX8_orNone_1 rfl hf (fun hf => ?_) (fun hf => ?_)
  · refine g_iload_n Γ (pc := 9) 0 dX8_orNone_9 rfl rfl ?_
    exact rIr ret dX8_orNone_10 hf
  · refine g_ldc Γ (pc := 4) dX8_orNone_4 kK_X8_64 ?_
    refine g_goto Γ (pc := 6) (tgt := 10) dX8_orNone_6 rfl ?_
    exact rIr ret dX8_orNone_10 hf
def f_X8_minds_K22_76 (y2_2 : Int32) : Option (Int32) :=
  bn1 (f_X8_orNone y2_2) fun v3 =>
  some v3
def f_X8_minds_J70 (x4_6 : Int32) (x2_9 : Int32) (x3_10 : Int32) : Option ((Int32 × Int32 × Int32) ⊕ Int32) :=
  some (.inl (x2_9, x3_10, x4_6 + 1))
def f_X8_minds_J59 (a0 : Int32) (μ : Mem) (x4_6 : Int32) : Option ((Int32 × Int32 × Int32) ⊕ Int32) :=
  bn1 (f_X8_cost x4_6 a0 μ) fun v11 =>
  f_X8_minds_J70 x4_6 x4_6 v11
def f_X8_minds_L22 (a0 : Int32) (μ : Mem) (x2_4 : Int32) (x3_5 : Int32) (x4_6 : Int32) : Option ((Int32 × Int32 × Int32) ⊕ Int32) :=
  bn1 (ldM (μ 1) 3059 0) fun v7 =>
  if (1 <<< (v7 &&& 31)) ≤ x4_6 then
    some (.inr x2_4)
  else
    bn1 (f_X8_isWay x4_6 μ) fun v8 =>
    if v8 = 0 then
      f_X8_minds_J70 x4_6 x2_4 x3_5
    else
      if x2_4 < 0 then
        f_X8_minds_J59 a0 μ x4_6
      else
        bn1 (f_X8_cost x4_6 a0 μ) fun v12 =>
        if x3_5 ≤ v12 then
          f_X8_minds_J70 x4_6 x2_4 x3_5
        else
          f_X8_minds_J59 a0 μ x4_6
def f_X8_minds (a0 : Int32) (μ : Mem) : Option (Int32) :=
  bn1 (f_X8_isIn a0.toInt64 0 3) fun v1 =>
  if v1 = 0 then
    some (-1000000001)
  else
    bn1 (lpF (fun v => f_X8_minds_L22 a0 μ v.1 v.2.1 v.2.2) 4000 ((-1), 0, 0)) (fun x => f_X8_minds_K22_76 x)
set_option maxRecDepth 100000 in
set_option maxHeartbeats 4000000 in
theorem c_X8_minds {Y : SYS} (hM : IsM Y) {a0 : Int32} {μ : Mem} {x : Int32} (hf : f_X8_minds a0 μ = some x) : KC Y yX8_minds cX8_minds 5 (some .int) 4 [.ref (sq Y 0), .int a0] μ (some (.int x)) μ := by
  refine KC.I RX8 [(0, .ref (sq Y 0)), (1, .int a0)] (by decide) rfl (Nat.le_of_ble_eq_true rfl) rfl (fun G Γ ret => ?_)
  unfold f_X8_minds at hf
  refine g_iload_n Γ (pc := 0) 1 dX8_minds_0 rfl rfl ?_
  refine g_i2l Γ (pc := 1) dX8_minds_1 ?_
  refine g_lconst Γ (pc := 2) (v := 0) dX8_minds_2 rfl ?_
  refine g_ldc2 Γ (pc := 3) dX8_minds_3 kL_X8_135 ?_
  obtain ⟨v1, h1, hf⟩ := bn1_i hf
  refine g_callSI Γ (pc := 6) (as := [.long a0.toInt64, .long 0, .long 3]) (st := []) dX8_minds_6 (c_X8_isIn h1) mi_X8_isIn ms_X8_isIn kM_X8_65 rfl ⟨Nat.le_of_ble_eq_true rfl, Nat.le_of_ble_eq_true rfl⟩ rfl (Nat.le_of_ble_eq_true rfl) ?_
  refine g_if_ne Γ (pc := 9) (tgt := 15) dX8_minds_9 rfl hf (fun hf => ?_) (fun hf => ?_)
  · refine g_iconst Γ (pc := 15) (v := (-1)) dX8_minds_15 rfl ?_
    refine g_istore_n Γ (pc := 16) (lv' := [(2, .int (-1)), (0, .ref (sq Y 0)), (1, .int a0)]) dX8_minds_16 rfl (by decide) rfl ?_
    refine g_iconst Γ (pc := 17) (v := 0) dX8_minds_17 rfl ?_
    refine g_istore_n Γ (pc := 18) (lv' := [(3, .int 0), (2, .int (-1)), (0, .ref (sq Y 0)), (1, .int a0)]) dX8_minds_18 rfl (by decide) rfl ?_
    refine g_iconst Γ (pc := 19) (v := 0) dX8_minds_19 rfl ?_
    refine g_istore Γ (pc := 20) (lv' := [(4, .int 0), (3, .int 0), (2, .int (-1)), (0, .ref (sq Y 0)), (1, .int a0)]) dX8_minds_20 (by decide) rfl ?_
    have K_22_76 : ∀ (y2_2 : Int32), f_X8_minds_K22_76 y2_2 = some x → G 76 [(2, .int y2_2)] [] μ := by
      intro y2_2 hf
      unfold f_X8_minds_K22_76 at hf
      refine g_iload_n Γ (pc := 76) 0 dX8_minds_76 rfl rfl ?_
      obtain ⟨v3, h1, hf⟩ := bn1_i hf
      refine g_callSI Γ (pc := 77) (as := [.int y2_2]) (st := []) dX8_minds_77 (c_X8_orNone h1) mi_X8_orNone ms_X8_orNone kM_X8_179 rfl ⟨Nat.le_of_ble_eq_true rfl, Nat.le_of_ble_eq_true rfl⟩ rfl (Nat.le_of_ble_eq_true rfl) ?_
      exact rIr ret dX8_minds_80 hf
    refine g_sub Γ [3, 4, 2, 1, 0] rfl ?_
    refine lpF_s (P := fun (v : Int32 × Int32 × Int32) => G 22 [(0, .ref (sq Y 0)), (1, .int a0), (2, .int v.1), (3, .int v.2.1), (4, .int v.2.2)] [] μ) hf (fun v z1 hf kI1 kX1 => ?_)
    obtain ⟨x2_4, x3_5, x4_6⟩ := v
    replace hf : f_X8_minds_L22 a0 μ x2_4 x3_5 x4_6 = some z1 := hf
    show G 22 [(0, .ref (sq Y 0)), (1, .int a0), (2, .int x2_4), (3, .int x3_5), (4, .int x4_6)] [] μ
    unfold f_X8_minds_L22 at hf
    refine g_iload Γ (pc := 22) 4 dX8_minds_22 rfl ?_
    refine g_iconst Γ (pc := 24) (v := 1) dX8_minds_24 rfl ?_
    refine g_aload_n Γ (pc := 25) 0 dX8_minds_25 rfl rfl ?_
    refine g_get Γ (pc := 26) (v := .ref (sq Y 1)) dX8_minds_26 (M_obj hM) fr_X8_7 rfl ?_
    refine g_iconst Γ (pc := 29) (v := 0) dX8_minds_29 rfl ?_
    refine g_iald Γ (pc := 30) dX8_minds_30 (M_1 hM) hf (fun v7 hf => ?_)
    refine g_ishl Γ (pc := 31) dX8_minds_31 ?_
    refine g_icmp_ge Γ (pc := 32) (tgt := 76) dX8_minds_32 rfl hf (fun hf => ?_) (fun hf => ?_)
    · refine g_sub Γ [2] rfl ?_
      exact K_22_76 x2_4 (kX1 x2_4 (Option.some.inj hf).symm)
    · refine g_aload_n Γ (pc := 35) 0 dX8_minds_35 rfl rfl ?_
      refine g_iload Γ (pc := 36) 4 dX8_minds_36 rfl ?_
      obtain ⟨v8, h1, hf⟩ := bn1_i hf
      refine g_callVI Γ (pc := 38) (as := [.int x4_6]) (st := []) dX8_minds_38 (c_X8_isWay hM h1) (M_obj hM) rfl mi_X8_isWay mv_X8_isWay kM_X8_170 rfl ⟨Nat.le_of_ble_eq_true rfl, Nat.le_of_ble_eq_true rfl⟩ rfl (Nat.le_of_ble_eq_true rfl) ?_
      have J_70 : ∀ (x2_9 : Int32) (x3_10 : Int32), f_X8_minds_J70 x4_6 x2_9 x3_10 = some z1 → G 70 [(0, .ref (sq Y 0)), (1, .int a0), (2, .int x2_9), (3, .int x3_10), (4, .int x4_6)] [] μ := by
        intro x2_9 x3_10 hf
        unfold f_X8_minds_J70 at hf
        refine g_iinc Γ (pc := 70) (v := x4_6 + 1) (lv' := [(4, .int (x4_6 + 1)), (0, .ref (sq Y 0)), (1, .int a0), (2, .int x2_9), (3, .int x3_10)]) 4 dX8_minds_70 rfl rfl (by decide) rfl ?_
        refine g_goto Γ (pc := 73) (tgt := 22) dX8_minds_73 rfl ?_
        refine g_sub Γ [1, 2, 3, 4, 0] rfl ?_
        exact kI1 (x2_9, x3_10, x4_6 + 1) (Option.some.inj hf).symm
      refine g_if_eq Γ (pc := 41) (tgt := 70) dX8_minds_41 rfl hf (fun hf => ?_) (fun hf => ?_)
      · refine g_sub Γ [0, 1, 2, 3, 4] rfl ?_
        exact J_70 x2_4 x3_5 hf
      · refine g_iload_n Γ (pc := 44) 2 dX8_minds_44 rfl rfl ?_
        have J_59 : f_X8_minds_J59 a0 μ x4_6 = some z1 → G 59 [(0, .ref (sq Y 0)), (1, .int a0), (4, .int x4_6)] [] μ := by
          intro hf
          unfold f_X8_minds_J59 at hf
          refine g_iload Γ (pc := 59) 2 dX8_minds_59 rfl ?_
          refine g_istore_n Γ (pc := 61) (lv' := [(2, .int x4_6), (0, .ref (sq Y 0)), (1, .int a0), (4, .int x4_6)]) dX8_minds_61 rfl (by decide) rfl ?_
          refine g_aload_n Γ (pc := 62) 1 dX8_minds_62 rfl rfl ?_
          refine g_iload Γ (pc := 63) 3 dX8_minds_63 rfl ?_
          refine g_iload_n Γ (pc := 65) 2 dX8_minds_65 rfl rfl ?_
          obtain ⟨v11, h1, hf⟩ := bn1_i hf
          refine g_callVI Γ (pc := 66) (as := [.int x4_6, .int a0]) (st := []) dX8_minds_66 (c_X8_cost hM h1) (M_obj hM) rfl mi_X8_cost mv_X8_cost kM_X8_176 rfl ⟨Nat.le_of_ble_eq_true rfl, Nat.le_of_ble_eq_true rfl⟩ rfl (Nat.le_of_ble_eq_true rfl) ?_
          refine g_istore_n Γ (pc := 69) (lv' := [(3, .int v11), (2, .int x4_6), (0, .ref (sq Y 0)), (1, .int a0), (4, .int x4_6)]) dX8_minds_69 rfl (by decide) rfl ?_
          refine g_sub Γ [2, 3, 1, 0, 4] rfl ?_
          exact J_70 x4_6 v11 hf
        refine g_if_lt Γ (pc := 45) (tgt := 59) dX8_minds_45 rfl hf (fun hf => ?_) (fun hf => ?_)
        · refine g_sub Γ [0, 1, 4] rfl ?_
          exact J_59 hf
        · refine g_aload_n Γ (pc := 48) 0 dX8_minds_48 rfl rfl ?_
          refine g_iload Γ (pc := 49) 4 dX8_minds_49 rfl ?_
          refine g_iload_n Γ (pc := 51) 1 dX8_minds_51 rfl rfl ?_
          obtain ⟨v12, h1, hf⟩ := bn1_i hf
          refine g_callVI Γ (pc := 52) (as := [.int x4_6, .int a0]) (st := []) dX8_minds_52 (c_X8_cost hM h1) (M_obj hM) rfl mi_X8_cost mv_X8_cost kM_X8_176 rfl ⟨Nat.le_of_ble_eq_true rfl, Nat.le_of_ble_eq_true rfl⟩ rfl (Nat.le_of_ble_eq_true rfl) ?_
          refine g_iload_n Γ (pc := 55) 3 dX8_minds_55 rfl rfl ?_
          refine g_icmp_ge Γ (pc := 56) (tgt := 70) dX8_minds_56 rfl hf (fun hf => ?_) (fun hf => ?_)
          · refine g_sub Γ [0, 1, 2, 3, 4] rfl ?_
            exact J_70 x2_4 x3_5 hf
          · refine g_sub Γ [0, 1, 4] rfl ?_
            exact J_59 hf
  · refine g_ldc Γ (pc := 12) dX8_minds_12 kK_X8_78 ?_
    exact rIr ret dX8_minds_14 hf
def f_X8_freedom_K6_42 (μ : Mem) (y1_1 : Int32) (y2_2 : Int32) : Option (Int32) :=
  bn1 (ldM (μ 1) 3059 0) fun v3 =>
  some ((y1_1 &&& y2_2) &&& ((1 <<< (v3 &&& 31)) - 1))
def f_X8_freedom_J36 (x3_6 : Int32) (x1_9 : Int32) (x2_10 : Int32) : Option ((Int32 × Int32 × Int32) ⊕ (Int32 × Int32)) :=
  some (.inl (x1_9, x2_10, x3_6 + 1))
def f_X8_freedom_L6 (μ : Mem) (x1_4 : Int32) (x2_5 : Int32) (x3_6 : Int32) : Option ((Int32 × Int32 × Int32) ⊕ (Int32 × Int32)) :=
  bn1 (ldM (μ 1) 3059 0) fun v7 =>
  if (1 <<< (v7 &&& 31)) ≤ x3_6 then
    some (.inr (x1_4, x2_5))
  else
    bn1 (f_X8_isWay x3_6 μ) fun v8 =>
    if v8 = 0 then
      f_X8_freedom_J36 x3_6 x1_4 x2_5
    else
      f_X8_freedom_J36 x3_6 (x1_4 ||| x3_6) (x2_5 ||| (x3_6 ^^^ (-1)))
def f_X8_freedom (μ : Mem) : Option (Int32) :=
  bn1 (lpF (fun v => f_X8_freedom_L6 μ v.1 v.2.1 v.2.2) 4000 (0, 0, 0)) (fun x => f_X8_freedom_K6_42 μ x.1 x.2)
set_option maxRecDepth 100000 in
set_option maxHeartbeats 4000000 in
theorem c_X8_freedom {Y : SYS} (hM : IsM Y) {μ : Mem} {x : Int32} (hf : f_X8_freedom μ = some x) : KC Y yX8_freedom cX8_freedom 4 (some .int) 4 [.ref (sq Y 0)] μ (some (.int x)) μ := by
  refine KC.I RX8 [(0, .ref (sq Y 0))] (by decide) rfl (Nat.le_of_ble_eq_true rfl) rfl (fun G Γ ret => ?_)
  unfold f_X8_freedom at hf
  refine g_iconst Γ (pc := 0) (v := 0) dX8_freedom_0 rfl ?_
  refine g_istore_n Γ (pc := 1) (lv' := [(1, .int 0), (0, .ref (sq Y 0))]) dX8_freedom_1 rfl (by decide) rfl ?_
  refine g_iconst Γ (pc := 2) (v := 0) dX8_freedom_2 rfl ?_
  refine g_istore_n Γ (pc := 3) (lv' := [(2, .int 0), (1, .int 0), (0, .ref (sq Y 0))]) dX8_freedom_3 rfl (by decide) rfl ?_
  refine g_iconst Γ (pc := 4) (v := 0) dX8_freedom_4 rfl ?_
  refine g_istore_n Γ (pc := 5) (lv' := [(3, .int 0), (2, .int 0), (1, .int 0), (0, .ref (sq Y 0))]) dX8_freedom_5 rfl (by decide) rfl ?_
  have K_6_42 : ∀ (y1_1 : Int32) (y2_2 : Int32), f_X8_freedom_K6_42 μ y1_1 y2_2 = some x → G 42 [(0, .ref (sq Y 0)), (1, .int y1_1), (2, .int y2_2)] [] μ := by
    intro y1_1 y2_2 hf
    unfold f_X8_freedom_K6_42 at hf
    refine g_iload_n Γ (pc := 42) 1 dX8_freedom_42 rfl rfl ?_
    refine g_iload_n Γ (pc := 43) 2 dX8_freedom_43 rfl rfl ?_
    refine g_iand Γ (pc := 44) dX8_freedom_44 ?_
    refine g_iconst Γ (pc := 45) (v := 1) dX8_freedom_45 rfl ?_
    refine g_aload_n Γ (pc := 46) 0 dX8_freedom_46 rfl rfl ?_
    refine g_get Γ (pc := 47) (v := .ref (sq Y 1)) dX8_freedom_47 (M_obj hM) fr_X8_7 rfl ?_
    refine g_iconst Γ (pc := 50) (v := 0) dX8_freedom_50 rfl ?_
    refine g_iald Γ (pc := 51) dX8_freedom_51 (M_1 hM) hf (fun v3 hf => ?_)
    refine g_ishl Γ (pc := 52) dX8_freedom_52 ?_
    refine g_iconst Γ (pc := 53) (v := 1) dX8_freedom_53 rfl ?_
    refine g_isub Γ (pc := 54) dX8_freedom_54 ?_
    refine g_iand Γ (pc := 55) dX8_freedom_55 ?_
    exact rIr ret dX8_freedom_56 hf
  refine g_sub Γ [3, 2, 1, 0] rfl ?_
  refine lpF_s (P := fun (v : Int32 × Int32 × Int32) => G 6 [(0, .ref (sq Y 0)), (1, .int v.1), (2, .int v.2.1), (3, .int v.2.2)] [] μ) hf (fun v z1 hf kI1 kX1 => ?_)
  obtain ⟨x1_4, x2_5, x3_6⟩ := v
  replace hf : f_X8_freedom_L6 μ x1_4 x2_5 x3_6 = some z1 := hf
  show G 6 [(0, .ref (sq Y 0)), (1, .int x1_4), (2, .int x2_5), (3, .int x3_6)] [] μ
  unfold f_X8_freedom_L6 at hf
  refine g_iload_n Γ (pc := 6) 3 dX8_freedom_6 rfl rfl ?_
  refine g_iconst Γ (pc := 7) (v := 1) dX8_freedom_7 rfl ?_
  refine g_aload_n Γ (pc := 8) 0 dX8_freedom_8 rfl rfl ?_
  refine g_get Γ (pc := 9) (v := .ref (sq Y 1)) dX8_freedom_9 (M_obj hM) fr_X8_7 rfl ?_
  refine g_iconst Γ (pc := 12) (v := 0) dX8_freedom_12 rfl ?_
  refine g_iald Γ (pc := 13) dX8_freedom_13 (M_1 hM) hf (fun v7 hf => ?_)
  refine g_ishl Γ (pc := 14) dX8_freedom_14 ?_
  refine g_icmp_ge Γ (pc := 15) (tgt := 42) dX8_freedom_15 rfl hf (fun hf => ?_) (fun hf => ?_)
  · refine g_sub Γ [0, 1, 2] rfl ?_
    exact K_6_42 x1_4 x2_5 (kX1 (x1_4, x2_5) (Option.some.inj hf).symm)
  · refine g_aload_n Γ (pc := 18) 0 dX8_freedom_18 rfl rfl ?_
    refine g_iload_n Γ (pc := 19) 3 dX8_freedom_19 rfl rfl ?_
    obtain ⟨v8, h1, hf⟩ := bn1_i hf
    refine g_callVI Γ (pc := 20) (as := [.int x3_6]) (st := []) dX8_freedom_20 (c_X8_isWay hM h1) (M_obj hM) rfl mi_X8_isWay mv_X8_isWay kM_X8_170 rfl ⟨Nat.le_of_ble_eq_true rfl, Nat.le_of_ble_eq_true rfl⟩ rfl (Nat.le_of_ble_eq_true rfl) ?_
    have J_36 : ∀ (x1_9 : Int32) (x2_10 : Int32), f_X8_freedom_J36 x3_6 x1_9 x2_10 = some z1 → G 36 [(0, .ref (sq Y 0)), (1, .int x1_9), (2, .int x2_10), (3, .int x3_6)] [] μ := by
      intro x1_9 x2_10 hf
      unfold f_X8_freedom_J36 at hf
      refine g_iinc Γ (pc := 36) (v := x3_6 + 1) (lv' := [(3, .int (x3_6 + 1)), (0, .ref (sq Y 0)), (1, .int x1_9), (2, .int x2_10)]) 3 dX8_freedom_36 rfl rfl (by decide) rfl ?_
      refine g_goto Γ (pc := 39) (tgt := 6) dX8_freedom_39 rfl ?_
      refine g_sub Γ [1, 2, 3, 0] rfl ?_
      exact kI1 (x1_9, x2_10, x3_6 + 1) (Option.some.inj hf).symm
    refine g_if_eq Γ (pc := 23) (tgt := 36) dX8_freedom_23 rfl hf (fun hf => ?_) (fun hf => ?_)
    · refine g_sub Γ [0, 1, 2, 3] rfl ?_
      exact J_36 x1_4 x2_5 hf
    · refine g_iload_n Γ (pc := 26) 1 dX8_freedom_26 rfl rfl ?_
      refine g_iload_n Γ (pc := 27) 3 dX8_freedom_27 rfl rfl ?_
      refine g_ior Γ (pc := 28) dX8_freedom_28 ?_
      refine g_istore_n Γ (pc := 29) (lv' := [(1, .int (x1_4 ||| x3_6)), (0, .ref (sq Y 0)), (2, .int x2_5), (3, .int x3_6)]) dX8_freedom_29 rfl (by decide) rfl ?_
      refine g_iload_n Γ (pc := 30) 2 dX8_freedom_30 rfl rfl ?_
      refine g_iload_n Γ (pc := 31) 3 dX8_freedom_31 rfl rfl ?_
      refine g_iconst Γ (pc := 32) (v := (-1)) dX8_freedom_32 rfl ?_
      refine g_ixor Γ (pc := 33) dX8_freedom_33 ?_
      refine g_ior Γ (pc := 34) dX8_freedom_34 ?_
      refine g_istore_n Γ (pc := 35) (lv' := [(2, .int (x2_5 ||| (x3_6 ^^^ (-1)))), (1, .int (x1_4 ||| x3_6)), (0, .ref (sq Y 0)), (3, .int x3_6)]) dX8_freedom_35 rfl (by decide) rfl ?_
      refine g_sub Γ [2, 1, 0, 3] rfl ?_
      exact J_36 (x1_4 ||| x3_6) (x2_5 ||| (x3_6 ^^^ (-1))) hf
def f_X8_together_K20_76 (y2_3 : Int32) : Option (Int32) :=
  bn1 (f_X8_orNone y2_3) fun v4 =>
  some v4
def f_X8_together_J69 (x3_6 : Int32) (s9 : Int32) : Option ((Int32 × Int32) ⊕ Int32) :=
  some (.inl (s9, x3_6 + 1))
def f_X8_together_J68 (x2_5 : Int32) (x3_6 : Int32) : Option ((Int32 × Int32) ⊕ Int32) :=
  f_X8_together_J69 x3_6 x2_5
def f_X8_together_J63 (x3_6 : Int32) (v8 : Int32) : Option ((Int32 × Int32) ⊕ Int32) :=
  f_X8_together_J69 x3_6 v8
def f_X8_together_L20 (μ : Mem) (v1 : Int32) (x2_5 : Int32) (x3_6 : Int32) : Option ((Int32 × Int32) ⊕ Int32) :=
  bn1 (ldM (μ 1) 3059 0) fun v7 =>
  if (1 <<< (v7 &&& 31)) ≤ x3_6 then
    some (.inr x2_5)
  else
    bn1 (f_X8_manyIn (x3_6 ^^^ v1)) fun v8 =>
    if v8 ≤ 0 then
      f_X8_together_J68 x2_5 x3_6
    else
      bn1 (f_X8_isWay x3_6 μ) fun v10 =>
      if v10 = 0 then
        f_X8_together_J68 x2_5 x3_6
      else
        if x2_5 < 0 then
          f_X8_together_J63 x3_6 v8
        else
          if x2_5 ≤ v8 then
            f_X8_together_J68 x2_5 x3_6
          else
            f_X8_together_J63 x3_6 v8
def f_X8_together (μ : Mem) : Option (Int32) :=
  bn1 (f_X8_forNow μ) fun v1 =>
  bn1 (f_X8_disorder v1 μ) fun v2 =>
  if v2 = 0 then
    bn1 (lpF (fun v => f_X8_together_L20 μ v1 v.1 v.2) 4000 ((-1), 0)) (fun x => f_X8_together_K20_76 x)
  else
    some (-1000000002)
set_option maxRecDepth 100000 in
set_option maxHeartbeats 4000000 in
theorem c_X8_together {Y : SYS} (hM : IsM Y) {μ : Mem} {x : Int32} (hf : f_X8_together μ = some x) : KC Y yX8_together cX8_together 5 (some .int) 4 [.ref (sq Y 0)] μ (some (.int x)) μ := by
  refine KC.I RX8 [(0, .ref (sq Y 0))] (by decide) rfl (Nat.le_of_ble_eq_true rfl) rfl (fun G Γ ret => ?_)
  unfold f_X8_together at hf
  refine g_aload_n Γ (pc := 0) 0 dX8_together_0 rfl rfl ?_
  obtain ⟨v1, h1, hf⟩ := bn1_i hf
  refine g_callVI Γ (pc := 1) (as := []) (st := []) dX8_together_1 (c_X8_forNow hM h1) (M_obj hM) rfl mi_X8_forNow mv_X8_forNow kM_X8_94 rfl ⟨Nat.le_of_ble_eq_true rfl, Nat.le_of_ble_eq_true rfl⟩ rfl (Nat.le_of_ble_eq_true rfl) ?_
  refine g_istore_n Γ (pc := 4) (lv' := [(1, .int v1), (0, .ref (sq Y 0))]) dX8_together_4 rfl (by decide) rfl ?_
  refine g_aload_n Γ (pc := 5) 1 dX8_together_5 rfl rfl ?_
  refine g_iload_n Γ (pc := 6) 0 dX8_together_6 rfl rfl ?_
  obtain ⟨v2, h1, hf⟩ := bn1_i hf
  refine g_callVI Γ (pc := 7) (as := [.int v1]) (st := []) dX8_together_7 (c_X8_disorder hM h1) (M_obj hM) rfl mi_X8_disorder mv_X8_disorder kM_X8_161 rfl ⟨Nat.le_of_ble_eq_true rfl, Nat.le_of_ble_eq_true rfl⟩ rfl (Nat.le_of_ble_eq_true rfl) ?_
  refine g_if_eq Γ (pc := 10) (tgt := 16) dX8_together_10 rfl hf (fun hf => ?_) (fun hf => ?_)
  · refine g_iconst Γ (pc := 16) (v := (-1)) dX8_together_16 rfl ?_
    refine g_istore_n Γ (pc := 17) (lv' := [(2, .int (-1)), (1, .int v1), (0, .ref (sq Y 0))]) dX8_together_17 rfl (by decide) rfl ?_
    refine g_iconst Γ (pc := 18) (v := 0) dX8_together_18 rfl ?_
    refine g_istore_n Γ (pc := 19) (lv' := [(3, .int 0), (2, .int (-1)), (1, .int v1), (0, .ref (sq Y 0))]) dX8_together_19 rfl (by decide) rfl ?_
    have K_20_76 : ∀ (y2_3 : Int32), f_X8_together_K20_76 y2_3 = some x → G 76 [(2, .int y2_3)] [] μ := by
      intro y2_3 hf
      unfold f_X8_together_K20_76 at hf
      refine g_iload_n Γ (pc := 76) 0 dX8_together_76 rfl rfl ?_
      obtain ⟨v4, h1, hf⟩ := bn1_i hf
      refine g_callSI Γ (pc := 77) (as := [.int y2_3]) (st := []) dX8_together_77 (c_X8_orNone h1) mi_X8_orNone ms_X8_orNone kM_X8_179 rfl ⟨Nat.le_of_ble_eq_true rfl, Nat.le_of_ble_eq_true rfl⟩ rfl (Nat.le_of_ble_eq_true rfl) ?_
      exact rIr ret dX8_together_80 hf
    refine g_sub Γ [3, 2, 1, 0] rfl ?_
    refine lpF_s (P := fun (v : Int32 × Int32) => G 20 [(0, .ref (sq Y 0)), (1, .int v1), (2, .int v.1), (3, .int v.2)] [] μ) hf (fun v z1 hf kI1 kX1 => ?_)
    obtain ⟨x2_5, x3_6⟩ := v
    replace hf : f_X8_together_L20 μ v1 x2_5 x3_6 = some z1 := hf
    show G 20 [(0, .ref (sq Y 0)), (1, .int v1), (2, .int x2_5), (3, .int x3_6)] [] μ
    unfold f_X8_together_L20 at hf
    refine g_iload_n Γ (pc := 20) 3 dX8_together_20 rfl rfl ?_
    refine g_iconst Γ (pc := 21) (v := 1) dX8_together_21 rfl ?_
    refine g_aload_n Γ (pc := 22) 0 dX8_together_22 rfl rfl ?_
    refine g_get Γ (pc := 23) (v := .ref (sq Y 1)) dX8_together_23 (M_obj hM) fr_X8_7 rfl ?_
    refine g_iconst Γ (pc := 26) (v := 0) dX8_together_26 rfl ?_
    refine g_iald Γ (pc := 27) dX8_together_27 (M_1 hM) hf (fun v7 hf => ?_)
    refine g_ishl Γ (pc := 28) dX8_together_28 ?_
    refine g_icmp_ge Γ (pc := 29) (tgt := 76) dX8_together_29 rfl hf (fun hf => ?_) (fun hf => ?_)
    · refine g_sub Γ [2] rfl ?_
      exact K_20_76 x2_5 (kX1 x2_5 (Option.some.inj hf).symm)
    · refine g_iload_n Γ (pc := 32) 3 dX8_together_32 rfl rfl ?_
      refine g_iload_n Γ (pc := 33) 1 dX8_together_33 rfl rfl ?_
      refine g_ixor Γ (pc := 34) dX8_together_34 ?_
      obtain ⟨v8, h1, hf⟩ := bn1_i hf
      refine g_callSI Γ (pc := 35) (as := [.int (x3_6 ^^^ v1)]) (st := []) dX8_together_35 (c_X8_manyIn h1) mi_X8_manyIn ms_X8_manyIn kM_X8_87 rfl ⟨Nat.le_of_ble_eq_true rfl, Nat.le_of_ble_eq_true rfl⟩ rfl (Nat.le_of_ble_eq_true rfl) ?_
      refine g_istore Γ (pc := 38) (lv' := [(4, .int v8), (0, .ref (sq Y 0)), (1, .int v1), (2, .int x2_5), (3, .int x3_6)]) dX8_together_38 (by decide) rfl ?_
      refine g_iload Γ (pc := 40) 0 dX8_together_40 rfl ?_
      have J_69 : ∀ (s9 : Int32), f_X8_together_J69 x3_6 s9 = some z1 → G 69 [(0, .ref (sq Y 0)), (1, .int v1), (3, .int x3_6)] [.int s9] μ := by
        intro s9 hf
        unfold f_X8_together_J69 at hf
        refine g_istore_n Γ (pc := 69) (lv' := [(2, .int s9), (0, .ref (sq Y 0)), (1, .int v1), (3, .int x3_6)]) dX8_together_69 rfl (by decide) rfl ?_
        refine g_iinc Γ (pc := 70) (v := x3_6 + 1) (lv' := [(3, .int (x3_6 + 1)), (2, .int s9), (0, .ref (sq Y 0)), (1, .int v1)]) 3 dX8_together_70 rfl rfl (by decide) rfl ?_
        refine g_goto Γ (pc := 73) (tgt := 20) dX8_together_73 rfl ?_
        refine g_sub Γ [2, 3, 1, 0] rfl ?_
        exact kI1 (s9, x3_6 + 1) (Option.some.inj hf).symm
      have J_68 : f_X8_together_J68 x2_5 x3_6 = some z1 → G 68 [(0, .ref (sq Y 0)), (1, .int v1), (2, .int x2_5), (3, .int x3_6)] [] μ := by
        intro hf
        unfold f_X8_together_J68 at hf
        refine g_iload_n Γ (pc := 68) 2 dX8_together_68 rfl rfl ?_
        refine g_sub Γ [0, 1, 3] rfl ?_
        exact J_69 x2_5 hf
      refine g_if_le Γ (pc := 42) (tgt := 68) dX8_together_42 rfl hf (fun hf => ?_) (fun hf => ?_)
      · refine g_sub Γ [1, 2, 3, 4] rfl ?_
        exact J_68 hf
      · refine g_aload_n Γ (pc := 45) 1 dX8_together_45 rfl rfl ?_
        refine g_iload_n Γ (pc := 46) 4 dX8_together_46 rfl rfl ?_
        obtain ⟨v10, h1, hf⟩ := bn1_i hf
        refine g_callVI Γ (pc := 47) (as := [.int x3_6]) (st := []) dX8_together_47 (c_X8_isWay hM h1) (M_obj hM) rfl mi_X8_isWay mv_X8_isWay kM_X8_170 rfl ⟨Nat.le_of_ble_eq_true rfl, Nat.le_of_ble_eq_true rfl⟩ rfl (Nat.le_of_ble_eq_true rfl) ?_
        refine g_if_eq Γ (pc := 50) (tgt := 68) dX8_together_50 rfl hf (fun hf => ?_) (fun hf => ?_)
        · refine g_sub Γ [1, 2, 3, 4] rfl ?_
          exact J_68 hf
        · refine g_iload_n Γ (pc := 53) 3 dX8_together_53 rfl rfl ?_
          have J_63 : f_X8_together_J63 x3_6 v8 = some z1 → G 63 [(0, .ref (sq Y 0)), (1, .int v1), (3, .int x3_6), (4, .int v8)] [] μ := by
            intro hf
            unfold f_X8_together_J63 at hf
            refine g_iload Γ (pc := 63) 3 dX8_together_63 rfl ?_
            refine g_goto Γ (pc := 65) (tgt := 69) dX8_together_65 rfl ?_
            refine g_sub Γ [0, 1, 2] rfl ?_
            exact J_69 v8 hf
          refine g_if_lt Γ (pc := 54) (tgt := 63) dX8_together_54 rfl hf (fun hf => ?_) (fun hf => ?_)
          · refine g_sub Γ [1, 2, 4, 0] rfl ?_
            exact J_63 hf
          · refine g_iload Γ (pc := 57) 0 dX8_together_57 rfl ?_
            refine g_iload_n Γ (pc := 59) 3 dX8_together_59 rfl rfl ?_
            refine g_icmp_ge Γ (pc := 60) (tgt := 68) dX8_together_60 rfl hf (fun hf => ?_) (fun hf => ?_)
            · refine g_sub Γ [1, 2, 3, 4] rfl ?_
              exact J_68 hf
            · refine g_sub Γ [1, 2, 4, 0] rfl ?_
              exact J_63 hf
  · refine g_ldc Γ (pc := 13) dX8_together_13 kK_X8_182 ?_
    exact rIr ret dX8_together_15 hf
def f_X8_best_K31_145 (a1 : Int32) (y3_3 : Int32) (y4_4 : Int32) (m5 : Mem) : Option (Int32 × Mem) :=
  if 0 ≤ y3_3 then
    if a1 = 0 then
      some (y3_3, m5)
    else
      some (y4_4, m5)
  else
    some ((-1000000005), m5)
def f_X8_best_K48_139 (x5_8 : Int32) (y3_11 : Int32) (y4_12 : Int32) (m13 : Mem) : Option ((Int32 × Int32 × Int32 × Mem) ⊕ (Int32 × Int32 × Mem)) :=
  some (.inl (y3_11, y4_12, x5_8 + 1, m13))
def f_X8_best_J133 (x6_16 : Int32) (x3_20 : Int32) (x4_21 : Int32) (m22 : Mem) : Option ((Int32 × Int32 × Int32 × Mem) ⊕ (Int32 × Int32 × Mem)) :=
  some (.inl (x3_20, x4_21, x6_16 + 1, m22))
def f_X8_best_J131 (x6_16 : Int32) (m25 : Mem) (s26 : Int32) (s27 : Int32) : Option ((Int32 × Int32 × Int32 × Mem) ⊕ (Int32 × Int32 × Mem)) :=
  f_X8_best_J133 x6_16 s26 s27 m25
def f_X8_best_J116 (x4_15 : Int32) (x6_16 : Int32) (v24 : Int32) (m25 : Mem) (s26 : Int32) : Option ((Int32 × Int32 × Int32 × Mem) ⊕ (Int32 × Int32 × Mem)) :=
  if v24 ≤ x4_15 then
    f_X8_best_J131 x6_16 m25 s26 x4_15
  else
    f_X8_best_J131 x6_16 m25 s26 v24
def f_X8_best_L48 (a0 : Int32) (x5_8 : Int32) (x3_14 : Int32) (x4_15 : Int32) (x6_16 : Int32) (m17 : Mem) : Option ((Int32 × Int32 × Int32 × Mem) ⊕ (Int32 × Int32 × Mem)) :=
  bn1 (ldM (m17 1) 3059 0) fun v18 =>
  if v18 ≤ x6_16 then
    some (.inr (x3_14, x4_15, m17))
  else
    bn1 (f_X8_areFriends x5_8 x6_16 m17) fun v19 =>
    if v19 = a0 then
      f_X8_best_J133 x6_16 x3_14 x4_15 m17
    else
      bn1 (f_X8_joins x5_8 x6_16 a0 m17) fun m23 =>
      bn1 (f_X8_ways m23) fun v24 =>
      bn1 (f_X8_joins x5_8 x6_16 (1 - a0) m23) fun m25 =>
      if v24 ≤ x4_15 then
        f_X8_best_J116 x4_15 x6_16 v24 m25 x3_14
      else
        f_X8_best_J116 x4_15 x6_16 v24 m25 ((100 * x5_8) + x6_16)
def f_X8_best_L31 (a0 : Int32) (x3_6 : Int32) (x4_7 : Int32) (x5_8 : Int32) (m9 : Mem) : Option ((Int32 × Int32 × Int32 × Mem) ⊕ (Int32 × Int32 × Mem)) :=
  bn1 (ldM (m9 1) 3059 0) fun v10 =>
  if v10 ≤ x5_8 then
    some (.inr (x3_6, x4_7, m9))
  else
    bn1 (lpF (fun v => f_X8_best_L48 a0 x5_8 v.1 v.2.1 v.2.2.1 v.2.2.2) 4000 (x3_6, x4_7, (x5_8 + 1), m9)) (fun x => f_X8_best_K48_139 x5_8 x.1 x.2.1 x.2.2)
def f_X8_best (a0 : Int32) (a1 : Int32) (μ : Mem) : Option (Int32 × Mem) :=
  bn1 (f_X8_isIn a0.toInt64 0 1) fun v1 =>
  if v1 = 0 then
    some ((-1000000001), μ)
  else
    bn1 (f_X8_isIn a1.toInt64 0 1) fun v2 =>
    if v2 = 0 then
      some ((-1000000001), μ)
    else
      bn1 (lpF (fun v => f_X8_best_L31 a0 v.1 v.2.1 v.2.2.1 v.2.2.2) 4000 ((-1), (-1), 0, μ)) (fun x => f_X8_best_K31_145 a1 x.1 x.2.1 x.2.2)
set_option maxRecDepth 100000 in
set_option maxHeartbeats 4000000 in
theorem c_X8_best {Y : SYS} (hM : IsM Y) {a0 : Int32} {a1 : Int32} {μ : Mem} {x : Int32} {m : Mem} (hf : f_X8_best a0 a1 μ = some (x, m)) : KC Y yX8_best cX8_best 8 (some .int) 5 [.ref (sq Y 0), .int a0, .int a1] μ (some (.int x)) m := by
  refine KC.I RX8 [(0, .ref (sq Y 0)), (1, .int a0), (2, .int a1)] (by decide) rfl (Nat.le_of_ble_eq_true rfl) rfl (fun G Γ ret => ?_)
  unfold f_X8_best at hf
  refine g_iload_n Γ (pc := 0) 1 dX8_best_0 rfl rfl ?_
  refine g_i2l Γ (pc := 1) dX8_best_1 ?_
  refine g_lconst Γ (pc := 2) (v := 0) dX8_best_2 rfl ?_
  refine g_lconst Γ (pc := 3) (v := 1) dX8_best_3 rfl ?_
  obtain ⟨v1, h1, hf⟩ := bn1_i hf
  refine g_callSI Γ (pc := 4) (as := [.long a0.toInt64, .long 0, .long 1]) (st := []) dX8_best_4 (c_X8_isIn h1) mi_X8_isIn ms_X8_isIn kM_X8_65 rfl ⟨Nat.le_of_ble_eq_true rfl, Nat.le_of_ble_eq_true rfl⟩ rfl (Nat.le_of_ble_eq_true rfl) ?_
  refine g_if_eq Γ (pc := 7) (tgt := 20) dX8_best_7 rfl hf (fun hf => ?_) (fun hf => ?_)
  · refine g_ldc Γ (pc := 20) dX8_best_20 kK_X8_78 ?_
    exact rI ret dX8_best_22 hf
  · refine g_iload_n Γ (pc := 10) 2 dX8_best_10 rfl rfl ?_
    refine g_i2l Γ (pc := 11) dX8_best_11 ?_
    refine g_lconst Γ (pc := 12) (v := 0) dX8_best_12 rfl ?_
    refine g_lconst Γ (pc := 13) (v := 1) dX8_best_13 rfl ?_
    obtain ⟨v2, h1, hf⟩ := bn1_i hf
    refine g_callSI Γ (pc := 14) (as := [.long a1.toInt64, .long 0, .long 1]) (st := []) dX8_best_14 (c_X8_isIn h1) mi_X8_isIn ms_X8_isIn kM_X8_65 rfl ⟨Nat.le_of_ble_eq_true rfl, Nat.le_of_ble_eq_true rfl⟩ rfl (Nat.le_of_ble_eq_true rfl) ?_
    refine g_if_ne Γ (pc := 17) (tgt := 23) dX8_best_17 rfl hf (fun hf => ?_) (fun hf => ?_)
    · refine g_iconst Γ (pc := 23) (v := (-1)) dX8_best_23 rfl ?_
      refine g_istore_n Γ (pc := 24) (lv' := [(3, .int (-1)), (0, .ref (sq Y 0)), (1, .int a0), (2, .int a1)]) dX8_best_24 rfl (by decide) rfl ?_
      refine g_iconst Γ (pc := 25) (v := (-1)) dX8_best_25 rfl ?_
      refine g_istore Γ (pc := 26) (lv' := [(4, .int (-1)), (3, .int (-1)), (0, .ref (sq Y 0)), (1, .int a0), (2, .int a1)]) dX8_best_26 (by decide) rfl ?_
      refine g_iconst Γ (pc := 28) (v := 0) dX8_best_28 rfl ?_
      refine g_istore Γ (pc := 29) (lv' := [(5, .int 0), (4, .int (-1)), (3, .int (-1)), (0, .ref (sq Y 0)), (1, .int a0), (2, .int a1)]) dX8_best_29 (by decide) rfl ?_
      have K_31_145 : ∀ (y3_3 : Int32) (y4_4 : Int32) (m5 : Mem), f_X8_best_K31_145 a1 y3_3 y4_4 m5 = some (x, m) → G 145 [(2, .int a1), (3, .int y3_3), (4, .int y4_4)] [] m5 := by
        intro y3_3 y4_4 m5 hf
        unfold f_X8_best_K31_145 at hf
        refine g_iload_n Γ (pc := 145) 1 dX8_best_145 rfl rfl ?_
        refine g_if_ge Γ (pc := 146) (tgt := 154) dX8_best_146 rfl hf (fun hf => ?_) (fun hf => ?_)
        · refine g_iload_n Γ (pc := 154) 0 dX8_best_154 rfl rfl ?_
          refine g_if_ne Γ (pc := 155) (tgt := 162) dX8_best_155 rfl hf (fun hf => ?_) (fun hf => ?_)
          · refine g_iload Γ (pc := 162) 2 dX8_best_162 rfl ?_
            exact rI ret dX8_best_164 hf
          · refine g_iload_n Γ (pc := 158) 1 dX8_best_158 rfl rfl ?_
            refine g_goto Γ (pc := 159) (tgt := 164) dX8_best_159 rfl ?_
            exact rI ret dX8_best_164 hf
        · refine g_ldc Γ (pc := 149) dX8_best_149 kK_X8_64 ?_
          refine g_goto Γ (pc := 151) (tgt := 164) dX8_best_151 rfl ?_
          exact rI ret dX8_best_164 hf
      refine g_sub Γ [3, 4, 5, 2, 1, 0] rfl ?_
      refine lpF_s (P := fun (v : Int32 × Int32 × Int32 × Mem) => G 31 [(0, .ref (sq Y 0)), (1, .int a0), (2, .int a1), (3, .int v.1), (4, .int v.2.1), (5, .int v.2.2.1)] [] v.2.2.2) hf (fun v z1 hf kI1 kX1 => ?_)
      obtain ⟨x3_6, x4_7, x5_8, m9⟩ := v
      replace hf : f_X8_best_L31 a0 x3_6 x4_7 x5_8 m9 = some z1 := hf
      show G 31 [(0, .ref (sq Y 0)), (1, .int a0), (2, .int a1), (3, .int x3_6), (4, .int x4_7), (5, .int x5_8)] [] m9
      unfold f_X8_best_L31 at hf
      refine g_iload Γ (pc := 31) 5 dX8_best_31 rfl ?_
      refine g_aload_n Γ (pc := 33) 0 dX8_best_33 rfl rfl ?_
      refine g_get Γ (pc := 34) (v := .ref (sq Y 1)) dX8_best_34 (M_obj hM) fr_X8_7 rfl ?_
      refine g_iconst Γ (pc := 37) (v := 0) dX8_best_37 rfl ?_
      refine g_iald Γ (pc := 38) dX8_best_38 (M_1 hM) hf (fun v10 hf => ?_)
      refine g_icmp_ge Γ (pc := 39) (tgt := 145) dX8_best_39 rfl hf (fun hf => ?_) (fun hf => ?_)
      · refine g_sub Γ [2, 3, 4] rfl ?_
        exact K_31_145 x3_6 x4_7 m9 (kX1 (x3_6, x4_7, m9) (Option.some.inj hf).symm)
      · refine g_iload Γ (pc := 42) 5 dX8_best_42 rfl ?_
        refine g_iconst Γ (pc := 44) (v := 1) dX8_best_44 rfl ?_
        refine g_iadd Γ (pc := 45) dX8_best_45 ?_
        refine g_istore Γ (pc := 46) (lv' := [(6, .int (x5_8 + 1)), (0, .ref (sq Y 0)), (1, .int a0), (2, .int a1), (3, .int x3_6), (4, .int x4_7), (5, .int x5_8)]) dX8_best_46 (by decide) rfl ?_
        have K_48_139 : ∀ (y3_11 : Int32) (y4_12 : Int32) (m13 : Mem), f_X8_best_K48_139 x5_8 y3_11 y4_12 m13 = some z1 → G 139 [(0, .ref (sq Y 0)), (1, .int a0), (2, .int a1), (3, .int y3_11), (4, .int y4_12), (5, .int x5_8)] [] m13 := by
          intro y3_11 y4_12 m13 hf
          unfold f_X8_best_K48_139 at hf
          refine g_iinc Γ (pc := 139) (v := x5_8 + 1) (lv' := [(5, .int (x5_8 + 1)), (0, .ref (sq Y 0)), (1, .int a0), (2, .int a1), (3, .int y3_11), (4, .int y4_12)]) 5 dX8_best_139 rfl rfl (by decide) rfl ?_
          refine g_goto Γ (pc := 142) (tgt := 31) dX8_best_142 rfl ?_
          refine g_sub Γ [1, 2, 3, 4, 5, 0] rfl ?_
          exact kI1 (y3_11, y4_12, x5_8 + 1, m13) (Option.some.inj hf).symm
        refine g_sub Γ [1, 2, 3, 4, 5, 6, 0] rfl ?_
        refine lpF_s (P := fun (v : Int32 × Int32 × Int32 × Mem) => G 48 [(0, .ref (sq Y 0)), (1, .int a0), (2, .int a1), (3, .int v.1), (4, .int v.2.1), (5, .int x5_8), (6, .int v.2.2.1)] [] v.2.2.2) hf (fun v z2 hf kI2 kX2 => ?_)
        obtain ⟨x3_14, x4_15, x6_16, m17⟩ := v
        replace hf : f_X8_best_L48 a0 x5_8 x3_14 x4_15 x6_16 m17 = some z2 := hf
        show G 48 [(0, .ref (sq Y 0)), (1, .int a0), (2, .int a1), (3, .int x3_14), (4, .int x4_15), (5, .int x5_8), (6, .int x6_16)] [] m17
        unfold f_X8_best_L48 at hf
        refine g_iload Γ (pc := 48) 6 dX8_best_48 rfl ?_
        refine g_aload_n Γ (pc := 50) 0 dX8_best_50 rfl rfl ?_
        refine g_get Γ (pc := 51) (v := .ref (sq Y 1)) dX8_best_51 (M_obj hM) fr_X8_7 rfl ?_
        refine g_iconst Γ (pc := 54) (v := 0) dX8_best_54 rfl ?_
        refine g_iald Γ (pc := 55) dX8_best_55 (M_1 hM) hf (fun v18 hf => ?_)
        refine g_icmp_ge Γ (pc := 56) (tgt := 139) dX8_best_56 rfl hf (fun hf => ?_) (fun hf => ?_)
        · refine g_sub Γ [0, 1, 2, 3, 4, 5] rfl ?_
          exact K_48_139 x3_14 x4_15 m17 (kX2 (x3_14, x4_15, m17) (Option.some.inj hf).symm)
        · refine g_aload_n Γ (pc := 59) 0 dX8_best_59 rfl rfl ?_
          refine g_iload Γ (pc := 60) 5 dX8_best_60 rfl ?_
          refine g_iload Γ (pc := 62) 6 dX8_best_62 rfl ?_
          obtain ⟨v19, h1, hf⟩ := bn1_i hf
          refine g_callVI Γ (pc := 64) (as := [.int x5_8, .int x6_16]) (st := []) dX8_best_64 (c_X8_areFriends hM h1) (M_obj hM) rfl mi_X8_areFriends mv_X8_areFriends kM_X8_141 rfl ⟨Nat.le_of_ble_eq_true rfl, Nat.le_of_ble_eq_true rfl⟩ rfl (Nat.le_of_ble_eq_true rfl) ?_
          refine g_iload_n Γ (pc := 67) 1 dX8_best_67 rfl rfl ?_
          have J_133 : ∀ (x3_20 : Int32) (x4_21 : Int32) (m22 : Mem), f_X8_best_J133 x6_16 x3_20 x4_21 m22 = some z2 → G 133 [(0, .ref (sq Y 0)), (1, .int a0), (2, .int a1), (3, .int x3_20), (4, .int x4_21), (5, .int x5_8), (6, .int x6_16)] [] m22 := by
            intro x3_20 x4_21 m22 hf
            unfold f_X8_best_J133 at hf
            refine g_iinc Γ (pc := 133) (v := x6_16 + 1) (lv' := [(6, .int (x6_16 + 1)), (0, .ref (sq Y 0)), (1, .int a0), (2, .int a1), (3, .int x3_20), (4, .int x4_21), (5, .int x5_8)]) 6 dX8_best_133 rfl rfl (by decide) rfl ?_
            refine g_goto Γ (pc := 136) (tgt := 48) dX8_best_136 rfl ?_
            refine g_sub Γ [1, 2, 3, 4, 5, 6, 0] rfl ?_
            exact kI2 (x3_20, x4_21, x6_16 + 1, m22) (Option.some.inj hf).symm
          refine g_icmp_eq Γ (pc := 68) (tgt := 133) dX8_best_68 rfl hf (fun hf => ?_) (fun hf => ?_)
          · refine g_sub Γ [0, 1, 2, 3, 4, 5, 6] rfl ?_
            exact J_133 x3_14 x4_15 m17 hf
          · refine g_aload_n Γ (pc := 71) 0 dX8_best_71 rfl rfl ?_
            refine g_iload Γ (pc := 72) 5 dX8_best_72 rfl ?_
            refine g_iload Γ (pc := 74) 6 dX8_best_74 rfl ?_
            refine g_iload_n Γ (pc := 76) 1 dX8_best_76 rfl rfl ?_
            obtain ⟨m23, h1, hf⟩ := bn1_i hf
            refine g_callVV Γ (pc := 77) (as := [.int x5_8, .int x6_16, .int a0]) (st := []) dX8_best_77 (c_X8_joins hM h1) (M_obj hM) rfl mi_X8_joins mv_X8_joins kM_X8_144 rfl ⟨Nat.le_of_ble_eq_true rfl, Nat.le_of_ble_eq_true rfl⟩ rfl (Nat.le_of_ble_eq_true rfl) ?_
            refine g_aload_n Γ (pc := 80) 0 dX8_best_80 rfl rfl ?_
            obtain ⟨v24, h1, hf⟩ := bn1_i hf
            refine g_callVI Γ (pc := 81) (as := []) (st := []) dX8_best_81 (c_X8_ways hM h1) (M_obj hM) rfl mi_X8_ways mv_X8_ways kM_X8_183 rfl ⟨Nat.le_of_ble_eq_true rfl, Nat.le_of_ble_eq_true rfl⟩ rfl (Nat.le_of_ble_eq_true rfl) ?_
            refine g_istore Γ (pc := 84) (lv' := [(7, .int v24), (0, .ref (sq Y 0)), (1, .int a0), (2, .int a1), (3, .int x3_14), (4, .int x4_15), (5, .int x5_8), (6, .int x6_16)]) dX8_best_84 (by decide) rfl ?_
            refine g_aload_n Γ (pc := 86) 1 dX8_best_86 rfl rfl ?_
            refine g_iload Γ (pc := 87) 6 dX8_best_87 rfl ?_
            refine g_iload Γ (pc := 89) 7 dX8_best_89 rfl ?_
            refine g_iconst Γ (pc := 91) (v := 1) dX8_best_91 rfl ?_
            refine g_iload_n Γ (pc := 92) 2 dX8_best_92 rfl rfl ?_
            refine g_isub Γ (pc := 93) dX8_best_93 ?_
            obtain ⟨m25, h1, hf⟩ := bn1_i hf
            refine g_callVV Γ (pc := 94) (as := [.int x5_8, .int x6_16, .int (1 - a0)]) (st := []) dX8_best_94 (c_X8_joins hM h1) (M_obj hM) rfl mi_X8_joins mv_X8_joins kM_X8_144 rfl ⟨Nat.le_of_ble_eq_true rfl, Nat.le_of_ble_eq_true rfl⟩ rfl (Nat.le_of_ble_eq_true rfl) ?_
            refine g_iload Γ (pc := 97) 0 dX8_best_97 rfl ?_
            refine g_iload Γ (pc := 99) 5 dX8_best_99 rfl ?_
            have J_116 : ∀ (s26 : Int32), f_X8_best_J116 x4_15 x6_16 v24 m25 s26 = some z2 → G 116 [(0, .ref (sq Y 0)), (1, .int a0), (2, .int a1), (4, .int x4_15), (5, .int x5_8), (6, .int x6_16), (7, .int v24)] [.int s26] m25 := by
              intro s26 hf
              unfold f_X8_best_J116 at hf
              refine g_istore_n Γ (pc := 116) (lv' := [(3, .int s26), (0, .ref (sq Y 0)), (1, .int a0), (2, .int a1), (4, .int x4_15), (5, .int x5_8), (6, .int x6_16), (7, .int v24)]) dX8_best_116 rfl (by decide) rfl ?_
              refine g_iload Γ (pc := 117) 7 dX8_best_117 rfl ?_
              refine g_iload Γ (pc := 119) 4 dX8_best_119 rfl ?_
              have J_131 : ∀ (s27 : Int32), f_X8_best_J131 x6_16 m25 s26 s27 = some z2 → G 131 [(0, .ref (sq Y 0)), (1, .int a0), (2, .int a1), (3, .int s26), (5, .int x5_8), (6, .int x6_16)] [.int s27] m25 := by
                intro s27 hf
                unfold f_X8_best_J131 at hf
                refine g_istore Γ (pc := 131) (lv' := [(4, .int s27), (0, .ref (sq Y 0)), (1, .int a0), (2, .int a1), (3, .int s26), (5, .int x5_8), (6, .int x6_16)]) dX8_best_131 (by decide) rfl ?_
                refine g_sub Γ [1, 2, 3, 4, 0, 5, 6] rfl ?_
                exact J_133 s26 s27 m25 hf
              refine g_icmp_le Γ (pc := 121) (tgt := 129) dX8_best_121 rfl hf (fun hf => ?_) (fun hf => ?_)
              · refine g_iload Γ (pc := 129) 4 dX8_best_129 rfl ?_
                refine g_sub Γ [1, 2, 3, 0, 5, 6] rfl ?_
                exact J_131 x4_15 hf
              · refine g_iload Γ (pc := 124) 7 dX8_best_124 rfl ?_
                refine g_goto Γ (pc := 126) (tgt := 131) dX8_best_126 rfl ?_
                refine g_sub Γ [1, 2, 3, 0, 5, 6] rfl ?_
                exact J_131 v24 hf
            refine g_icmp_le Γ (pc := 101) (tgt := 115) dX8_best_101 rfl hf (fun hf => ?_) (fun hf => ?_)
            · refine g_iload_n Γ (pc := 115) 4 dX8_best_115 rfl rfl ?_
              refine g_sub Γ [1, 2, 3, 5, 6, 7, 0] rfl ?_
              exact J_116 x3_14 hf
            · refine g_bipush Γ (pc := 104) (v := 100) dX8_best_104 rfl ?_
              refine g_iload Γ (pc := 106) 6 dX8_best_106 rfl ?_
              refine g_imul Γ (pc := 108) dX8_best_108 ?_
              refine g_iload Γ (pc := 109) 7 dX8_best_109 rfl ?_
              refine g_iadd Γ (pc := 111) dX8_best_111 ?_
              refine g_goto Γ (pc := 112) (tgt := 116) dX8_best_112 rfl ?_
              refine g_sub Γ [1, 2, 3, 5, 6, 7, 0] rfl ?_
              exact J_116 ((100 * x5_8) + x6_16) hf
    · refine g_ldc Γ (pc := 20) dX8_best_20 kK_X8_78 ?_
      exact rI ret dX8_best_22 hf
