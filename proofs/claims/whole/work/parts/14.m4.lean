def f_X8_mark_J96 (a0 : Int32) (a1 : Int32) (a2 : Int32) (μ : Mem) : Option (Int32 × Mem) :=
  bn1 (ldM (μ 4) 4 a0) fun v7 =>
  if v7 = 0 then
    bn1 (stM μ 6 96 ((24 * a0) + a1) ((a2 <<< (16 &&& 31)) >>> (16 &&& 31))) fun m9 =>
    some (1, m9)
  else
    bn1 (stM μ 6 96 ((24 * a0) + a1) a2) fun m8 =>
    some (1, m8)
def f_X8_mark_J63 (a0 : Int32) (a1 : Int32) (a2 : Int32) (μ : Mem) : Option (Int32 × Mem) :=
  bn1 (ldM (μ 4) 4 a0) fun v6 =>
  if v6 = 1 then
    if a2 = (-1000000005) then
      f_X8_mark_J96 a0 a1 a2 μ
    else
      bn1 (f_X8_isIn a2.toInt64 (-99999) 99999) fun v10 =>
      if v10 = 0 then
        some ((-1000000001), μ)
      else
        f_X8_mark_J96 a0 a1 a2 μ
  else
    f_X8_mark_J96 a0 a1 a2 μ
def f_X8_mark (a0 : Int32) (a1 : Int32) (a2 : Int32) (μ : Mem) : Option (Int32 × Mem) :=
  bn1 (f_X8_isSheet a0) fun v1 =>
  if v1 = 0 then
    some ((-1000000001), μ)
  else
    bn1 (ldM (μ 4) 4 a0) fun v2 =>
    if 0 ≤ v2 then
      bn1 (ldM (μ 5) 4 a0) fun v3 =>
      bn1 (f_X8_isIn a1.toInt64 0 ((v3 - 1).toInt64)) fun v4 =>
      if v4 = 0 then
        some ((-1000000013), μ)
      else
        bn1 (ldM (μ 4) 4 a0) fun v5 =>
        if v5 = 0 then
          if a2 = (-1000000005) then
            some ((-1000000012), μ)
          else
            f_X8_mark_J63 a0 a1 a2 μ
        else
          f_X8_mark_J63 a0 a1 a2 μ
    else
      some ((-1000000011), μ)
set_option maxRecDepth 100000 in
set_option maxHeartbeats 4000000 in
theorem c_X8_mark {Y : SYS} (hM : IsM Y) {a0 : Int32} {a1 : Int32} {a2 : Int32} {μ : Mem} {x : Int32} {m : Mem} (hf : f_X8_mark a0 a1 a2 μ = some (x, m)) : KC Y yX8_mark cX8_mark 4 (some .int) 2 [.ref (sq Y 0), .int a0, .int a1, .int a2] μ (some (.int x)) m := by
  refine KC.I RX8 [(0, .ref (sq Y 0)), (1, .int a0), (2, .int a1), (3, .int a2)] (by decide) rfl (Nat.le_of_ble_eq_true rfl) rfl (fun G Γ ret => ?_)
  unfold f_X8_mark at hf
  refine g_iload_n Γ (pc := 0) 1 dX8_mark_0 rfl rfl ?_
  obtain ⟨v1, h1, hf⟩ := bn1_i hf
  refine g_callSI Γ (pc := 1) (as := [.int a0]) (st := []) dX8_mark_1 (c_X8_isSheet h1) mi_X8_isSheet ms_X8_isSheet kM_X8_314 rfl ⟨Nat.le_of_ble_eq_true rfl, Nat.le_of_ble_eq_true rfl⟩ rfl (Nat.le_of_ble_eq_true rfl) ?_
  refine g_if_ne Γ (pc := 4) (tgt := 10) dX8_mark_4 rfl hf (fun hf => ?_) (fun hf => ?_)
  · refine g_aload_n Γ (pc := 10) 0 dX8_mark_10 rfl rfl ?_
    refine g_get Γ (pc := 11) (v := .ref (sq Y 4)) dX8_mark_11 (M_obj hM) fr_X8_19 rfl ?_
    refine g_iload_n Γ (pc := 14) 1 dX8_mark_14 rfl rfl ?_
    refine g_iald Γ (pc := 15) dX8_mark_15 (M_4 hM) hf (fun v2 hf => ?_)
    refine g_if_ge Γ (pc := 16) (tgt := 23) dX8_mark_16 rfl hf (fun hf => ?_) (fun hf => ?_)
    · refine g_iload_n Γ (pc := 23) 2 dX8_mark_23 rfl rfl ?_
      refine g_i2l Γ (pc := 24) dX8_mark_24 ?_
      refine g_lconst Γ (pc := 25) (v := 0) dX8_mark_25 rfl ?_
      refine g_aload_n Γ (pc := 26) 0 dX8_mark_26 rfl rfl ?_
      refine g_get Γ (pc := 27) (v := .ref (sq Y 5)) dX8_mark_27 (M_obj hM) fr_X8_22 rfl ?_
      refine g_iload_n Γ (pc := 30) 1 dX8_mark_30 rfl rfl ?_
      refine g_iald Γ (pc := 31) dX8_mark_31 (M_5 hM) hf (fun v3 hf => ?_)
      refine g_iconst Γ (pc := 32) (v := 1) dX8_mark_32 rfl ?_
      refine g_isub Γ (pc := 33) dX8_mark_33 ?_
      refine g_i2l Γ (pc := 34) dX8_mark_34 ?_
      obtain ⟨v4, h1, hf⟩ := bn1_i hf
      refine g_callSI Γ (pc := 35) (as := [.long a1.toInt64, .long 0, .long ((v3 - 1).toInt64)]) (st := []) dX8_mark_35 (c_X8_isIn h1) mi_X8_isIn ms_X8_isIn kM_X8_65 rfl ⟨Nat.le_of_ble_eq_true rfl, Nat.le_of_ble_eq_true rfl⟩ rfl (Nat.le_of_ble_eq_true rfl) ?_
      refine g_if_ne Γ (pc := 38) (tgt := 45) dX8_mark_38 rfl hf (fun hf => ?_) (fun hf => ?_)
      · refine g_aload_n Γ (pc := 45) 0 dX8_mark_45 rfl rfl ?_
        refine g_get Γ (pc := 46) (v := .ref (sq Y 4)) dX8_mark_46 (M_obj hM) fr_X8_19 rfl ?_
        refine g_iload_n Γ (pc := 49) 1 dX8_mark_49 rfl rfl ?_
        refine g_iald Γ (pc := 50) dX8_mark_50 (M_4 hM) hf (fun v5 hf => ?_)
        have J_63 : f_X8_mark_J63 a0 a1 a2 μ = some (x, m) → G 63 [(0, .ref (sq Y 0)), (1, .int a0), (2, .int a1), (3, .int a2)] [] μ := by
          intro hf
          unfold f_X8_mark_J63 at hf
          refine g_aload_n Γ (pc := 63) 0 dX8_mark_63 rfl rfl ?_
          refine g_get Γ (pc := 64) (v := .ref (sq Y 4)) dX8_mark_64 (M_obj hM) fr_X8_19 rfl ?_
          refine g_iload_n Γ (pc := 67) 1 dX8_mark_67 rfl rfl ?_
          refine g_iald Γ (pc := 68) dX8_mark_68 (M_4 hM) hf (fun v6 hf => ?_)
          refine g_iconst Γ (pc := 69) (v := 1) dX8_mark_69 rfl ?_
          have J_96 : f_X8_mark_J96 a0 a1 a2 μ = some (x, m) → G 96 [(0, .ref (sq Y 0)), (1, .int a0), (2, .int a1), (3, .int a2)] [] μ := by
            intro hf
            unfold f_X8_mark_J96 at hf
            refine g_aload_n Γ (pc := 96) 0 dX8_mark_96 rfl rfl ?_
            refine g_get Γ (pc := 97) (v := .ref (sq Y 6)) dX8_mark_97 (M_obj hM) fr_X8_25 rfl ?_
            refine g_bipush Γ (pc := 100) (v := 24) dX8_mark_100 rfl ?_
            refine g_iload_n Γ (pc := 102) 1 dX8_mark_102 rfl rfl ?_
            refine g_imul Γ (pc := 103) dX8_mark_103 ?_
            refine g_iload_n Γ (pc := 104) 2 dX8_mark_104 rfl rfl ?_
            refine g_iadd Γ (pc := 105) dX8_mark_105 ?_
            refine g_aload_n Γ (pc := 106) 0 dX8_mark_106 rfl rfl ?_
            refine g_get Γ (pc := 107) (v := .ref (sq Y 4)) dX8_mark_107 (M_obj hM) fr_X8_19 rfl ?_
            refine g_iload_n Γ (pc := 110) 1 dX8_mark_110 rfl rfl ?_
            refine g_iald Γ (pc := 111) dX8_mark_111 (M_4 hM) hf (fun v7 hf => ?_)
            refine g_if_ne Γ (pc := 112) (tgt := 125) dX8_mark_112 rfl hf (fun hf => ?_) (fun hf => ?_)
            · refine g_iload_n Γ (pc := 125) 3 dX8_mark_125 rfl rfl ?_
              refine g_iast Γ (pc := 126) dX8_mark_126 (M_6 hM) hf (fun m8 hf => ?_)
              refine g_iconst Γ (pc := 127) (v := 1) dX8_mark_127 rfl ?_
              exact rI ret dX8_mark_128 hf
            · refine g_iload_n Γ (pc := 115) 3 dX8_mark_115 rfl rfl ?_
              refine g_bipush Γ (pc := 116) (v := 16) dX8_mark_116 rfl ?_
              refine g_ishl Γ (pc := 118) dX8_mark_118 ?_
              refine g_bipush Γ (pc := 119) (v := 16) dX8_mark_119 rfl ?_
              refine g_ishr Γ (pc := 121) dX8_mark_121 ?_
              refine g_goto Γ (pc := 122) (tgt := 126) dX8_mark_122 rfl ?_
              refine g_iast Γ (pc := 126) dX8_mark_126 (M_6 hM) hf (fun m9 hf => ?_)
              refine g_iconst Γ (pc := 127) (v := 1) dX8_mark_127 rfl ?_
              exact rI ret dX8_mark_128 hf
          refine g_icmp_ne Γ (pc := 70) (tgt := 96) dX8_mark_70 rfl hf (fun hf => ?_) (fun hf => ?_)
          · refine g_sub Γ [0, 1, 2, 3] rfl ?_
            exact J_96 hf
          · refine g_iload_n Γ (pc := 73) 3 dX8_mark_73 rfl rfl ?_
            refine g_ldc Γ (pc := 74) dX8_mark_74 kK_X8_64 ?_
            refine g_icmp_eq Γ (pc := 76) (tgt := 96) dX8_mark_76 rfl hf (fun hf => ?_) (fun hf => ?_)
            · refine g_sub Γ [0, 1, 2, 3] rfl ?_
              exact J_96 hf
            · refine g_iload_n Γ (pc := 79) 3 dX8_mark_79 rfl rfl ?_
              refine g_i2l Γ (pc := 80) dX8_mark_80 ?_
              refine g_ldc2 Γ (pc := 81) dX8_mark_81 kL_X8_322 ?_
              refine g_ldc2 Γ (pc := 84) dX8_mark_84 kL_X8_324 ?_
              obtain ⟨v10, h1, hf⟩ := bn1_i hf
              refine g_callSI Γ (pc := 87) (as := [.long a2.toInt64, .long (-99999), .long 99999]) (st := []) dX8_mark_87 (c_X8_isIn h1) mi_X8_isIn ms_X8_isIn kM_X8_65 rfl ⟨Nat.le_of_ble_eq_true rfl, Nat.le_of_ble_eq_true rfl⟩ rfl (Nat.le_of_ble_eq_true rfl) ?_
              refine g_if_ne Γ (pc := 90) (tgt := 96) dX8_mark_90 rfl hf (fun hf => ?_) (fun hf => ?_)
              · refine g_sub Γ [0, 1, 2, 3] rfl ?_
                exact J_96 hf
              · refine g_ldc Γ (pc := 93) dX8_mark_93 kK_X8_78 ?_
                exact rI ret dX8_mark_95 hf
        refine g_if_ne Γ (pc := 51) (tgt := 63) dX8_mark_51 rfl hf (fun hf => ?_) (fun hf => ?_)
        · refine g_sub Γ [0, 1, 2, 3] rfl ?_
          exact J_63 hf
        · refine g_iload_n Γ (pc := 54) 3 dX8_mark_54 rfl rfl ?_
          refine g_ldc Γ (pc := 55) dX8_mark_55 kK_X8_64 ?_
          refine g_icmp_ne Γ (pc := 57) (tgt := 63) dX8_mark_57 rfl hf (fun hf => ?_) (fun hf => ?_)
          · refine g_sub Γ [0, 1, 2, 3] rfl ?_
            exact J_63 hf
          · refine g_ldc Γ (pc := 60) dX8_mark_60 kK_X8_131 ?_
            exact rI ret dX8_mark_62 hf
      · refine g_ldcw Γ (pc := 41) dX8_mark_41 kK_X8_321 ?_
        exact rI ret dX8_mark_44 hf
    · refine g_ldcw Γ (pc := 19) dX8_mark_19 kK_X8_320 ?_
      exact rI ret dX8_mark_22 hf
  · refine g_ldc Γ (pc := 7) dX8_mark_7 kK_X8_78 ?_
    exact rI ret dX8_mark_9 hf
def f_X8_isFor (a0 : Int32) : Option (Int32) :=
  if a0 ≤ 0 then
    some 0
  else
    some 1
set_option maxRecDepth 100000 in
set_option maxHeartbeats 4000000 in
theorem c_X8_isFor {Y : SYS} {a0 : Int32} {μ : Mem} {x : Int32} (hf : f_X8_isFor a0 = some x) : KC Y yX8_isFor cX8_isFor 1 (some .int) 0 [.int a0] μ (some (.int x)) μ := by
  refine KC.I RX8 [(0, .int a0)] (by decide) rfl (Nat.le_of_ble_eq_true rfl) rfl (fun G Γ ret => ?_)
  unfold f_X8_isFor at hf
  refine g_iload_n Γ (pc := 0) 0 dX8_isFor_0 rfl rfl ?_
  refine g_if_le Γ (pc := 1) (tgt := 8) dX8_isFor_1 rfl hf (fun hf => ?_) (fun hf => ?_)
  · refine g_iconst Γ (pc := 8) (v := 0) dX8_isFor_8 rfl ?_
    exact rIr ret dX8_isFor_9 hf
  · refine g_iconst Γ (pc := 4) (v := 1) dX8_isFor_4 rfl ?_
    refine g_goto Γ (pc := 5) (tgt := 9) dX8_isFor_5 rfl ?_
    exact rIr ret dX8_isFor_9 hf
def f_X8_pour_K27_123 (y2_3 : Int32) (m4 : Mem) : Option (Int32 × Mem) :=
  some (y2_3, m4)
def f_X8_pour_J115 (x2_5 : Int32) (x3_6 : Int32) (m13 : Mem) (s14 : Int32) : Option ((Int32 × Int32 × Mem) ⊕ (Int32 × Mem)) :=
  some (.inl ((x2_5 + s14), x3_6 + 1, m13))
def f_X8_pour_J88 (x2_5 : Int32) (x3_6 : Int32) (m7 : Mem) (s11 : Int32) : Option ((Int32 × Int32 × Mem) ⊕ (Int32 × Mem)) :=
  bn2 (f_X8_becomes ((9 + (5 * x3_6)) + 1) s11 m7) fun v12 m13 =>
  if s11 = v12 then
    f_X8_pour_J115 x2_5 x3_6 m13 0
  else
    f_X8_pour_J115 x2_5 x3_6 m13 1
def f_X8_pour_L27 (a0 : Int32) (x2_5 : Int32) (x3_6 : Int32) (m7 : Mem) : Option ((Int32 × Int32 × Mem) ⊕ (Int32 × Mem)) :=
  bn1 (ldM (m7 5) 4 a0) fun v8 =>
  if v8 ≤ x3_6 then
    some (.inr (x2_5, m7))
  else
    bn1 (ldM (m7 1) 3059 0) fun v9 =>
    if v9 ≤ x3_6 then
      some (.inr (x2_5, m7))
    else
      bn1 (ldM (m7 6) 96 ((24 * a0) + x3_6)) fun v10 =>
      if v10 = (-1000000005) then
        bn1 (ldM (m7 1) 3059 ((9 + (5 * x3_6)) + 1)) fun v16 =>
        f_X8_pour_J88 x2_5 x3_6 m7 v16
      else
        bn1 (f_X8_isFor v10) fun v15 =>
        f_X8_pour_J88 x2_5 x3_6 m7 v15
def f_X8_pour (a0 : Int32) (μ : Mem) : Option (Int32 × Mem) :=
  bn1 (f_X8_isSheet a0) fun v1 =>
  if v1 = 0 then
    some ((-1000000001), μ)
  else
    bn1 (ldM (μ 4) 4 a0) fun v2 =>
    if 0 ≤ v2 then
      bn1 (lpF (fun v => f_X8_pour_L27 a0 v.1 v.2.1 v.2.2) 4000 (0, 0, μ)) (fun x => f_X8_pour_K27_123 x.1 x.2)
    else
      some ((-1000000011), μ)
set_option maxRecDepth 100000 in
set_option maxHeartbeats 4000000 in
theorem c_X8_pour {Y : SYS} (hM : IsM Y) {a0 : Int32} {μ : Mem} {x : Int32} {m : Mem} (hf : f_X8_pour a0 μ = some (x, m)) : KC Y yX8_pour cX8_pour 6 (some .int) 2 [.ref (sq Y 0), .int a0] μ (some (.int x)) m := by
  refine KC.I RX8 [(0, .ref (sq Y 0)), (1, .int a0)] (by decide) rfl (Nat.le_of_ble_eq_true rfl) rfl (fun G Γ ret => ?_)
  unfold f_X8_pour at hf
  refine g_iload_n Γ (pc := 0) 1 dX8_pour_0 rfl rfl ?_
  obtain ⟨v1, h1, hf⟩ := bn1_i hf
  refine g_callSI Γ (pc := 1) (as := [.int a0]) (st := []) dX8_pour_1 (c_X8_isSheet h1) mi_X8_isSheet ms_X8_isSheet kM_X8_314 rfl ⟨Nat.le_of_ble_eq_true rfl, Nat.le_of_ble_eq_true rfl⟩ rfl (Nat.le_of_ble_eq_true rfl) ?_
  refine g_if_ne Γ (pc := 4) (tgt := 10) dX8_pour_4 rfl hf (fun hf => ?_) (fun hf => ?_)
  · refine g_aload_n Γ (pc := 10) 0 dX8_pour_10 rfl rfl ?_
    refine g_get Γ (pc := 11) (v := .ref (sq Y 4)) dX8_pour_11 (M_obj hM) fr_X8_19 rfl ?_
    refine g_iload_n Γ (pc := 14) 1 dX8_pour_14 rfl rfl ?_
    refine g_iald Γ (pc := 15) dX8_pour_15 (M_4 hM) hf (fun v2 hf => ?_)
    refine g_if_ge Γ (pc := 16) (tgt := 23) dX8_pour_16 rfl hf (fun hf => ?_) (fun hf => ?_)
    · refine g_iconst Γ (pc := 23) (v := 0) dX8_pour_23 rfl ?_
      refine g_istore_n Γ (pc := 24) (lv' := [(2, .int 0), (0, .ref (sq Y 0)), (1, .int a0)]) dX8_pour_24 rfl (by decide) rfl ?_
      refine g_iconst Γ (pc := 25) (v := 0) dX8_pour_25 rfl ?_
      refine g_istore_n Γ (pc := 26) (lv' := [(3, .int 0), (2, .int 0), (0, .ref (sq Y 0)), (1, .int a0)]) dX8_pour_26 rfl (by decide) rfl ?_
      have K_27_123 : ∀ (y2_3 : Int32) (m4 : Mem), f_X8_pour_K27_123 y2_3 m4 = some (x, m) → G 123 [(2, .int y2_3)] [] m4 := by
        intro y2_3 m4 hf
        unfold f_X8_pour_K27_123 at hf
        refine g_iload_n Γ (pc := 123) 0 dX8_pour_123 rfl rfl ?_
        exact rI ret dX8_pour_124 hf
      refine g_sub Γ [2, 3, 1, 0] rfl ?_
      refine lpF_s (P := fun (v : Int32 × Int32 × Mem) => G 27 [(0, .ref (sq Y 0)), (1, .int a0), (2, .int v.1), (3, .int v.2.1)] [] v.2.2) hf (fun v z1 hf kI1 kX1 => ?_)
      obtain ⟨x2_5, x3_6, m7⟩ := v
      replace hf : f_X8_pour_L27 a0 x2_5 x3_6 m7 = some z1 := hf
      show G 27 [(0, .ref (sq Y 0)), (1, .int a0), (2, .int x2_5), (3, .int x3_6)] [] m7
      unfold f_X8_pour_L27 at hf
      refine g_iload_n Γ (pc := 27) 3 dX8_pour_27 rfl rfl ?_
      refine g_aload_n Γ (pc := 28) 0 dX8_pour_28 rfl rfl ?_
      refine g_get Γ (pc := 29) (v := .ref (sq Y 5)) dX8_pour_29 (M_obj hM) fr_X8_22 rfl ?_
      refine g_iload_n Γ (pc := 32) 1 dX8_pour_32 rfl rfl ?_
      refine g_iald Γ (pc := 33) dX8_pour_33 (M_5 hM) hf (fun v8 hf => ?_)
      refine g_icmp_ge Γ (pc := 34) (tgt := 123) dX8_pour_34 rfl hf (fun hf => ?_) (fun hf => ?_)
      · refine g_sub Γ [2] rfl ?_
        exact K_27_123 x2_5 m7 (kX1 (x2_5, m7) (Option.some.inj hf).symm)
      · refine g_iload_n Γ (pc := 37) 3 dX8_pour_37 rfl rfl ?_
        refine g_aload_n Γ (pc := 38) 0 dX8_pour_38 rfl rfl ?_
        refine g_get Γ (pc := 39) (v := .ref (sq Y 1)) dX8_pour_39 (M_obj hM) fr_X8_7 rfl ?_
        refine g_iconst Γ (pc := 42) (v := 0) dX8_pour_42 rfl ?_
        refine g_iald Γ (pc := 43) dX8_pour_43 (M_1 hM) hf (fun v9 hf => ?_)
        refine g_icmp_ge Γ (pc := 44) (tgt := 123) dX8_pour_44 rfl hf (fun hf => ?_) (fun hf => ?_)
        · refine g_sub Γ [2] rfl ?_
          exact K_27_123 x2_5 m7 (kX1 (x2_5, m7) (Option.some.inj hf).symm)
        · refine g_aload_n Γ (pc := 47) 0 dX8_pour_47 rfl rfl ?_
          refine g_get Γ (pc := 48) (v := .ref (sq Y 6)) dX8_pour_48 (M_obj hM) fr_X8_25 rfl ?_
          refine g_bipush Γ (pc := 51) (v := 24) dX8_pour_51 rfl ?_
          refine g_iload_n Γ (pc := 53) 1 dX8_pour_53 rfl rfl ?_
          refine g_imul Γ (pc := 54) dX8_pour_54 ?_
          refine g_iload_n Γ (pc := 55) 3 dX8_pour_55 rfl rfl ?_
          refine g_iadd Γ (pc := 56) dX8_pour_56 ?_
          refine g_iald Γ (pc := 57) dX8_pour_57 (M_6 hM) hf (fun v10 hf => ?_)
          refine g_istore Γ (pc := 58) (lv' := [(4, .int v10), (0, .ref (sq Y 0)), (1, .int a0), (2, .int x2_5), (3, .int x3_6)]) dX8_pour_58 (by decide) rfl ?_
          refine g_iload Γ (pc := 60) 0 dX8_pour_60 rfl ?_
          refine g_ldc Γ (pc := 62) dX8_pour_62 kK_X8_64 ?_
          have J_88 : ∀ (s11 : Int32), f_X8_pour_J88 x2_5 x3_6 m7 s11 = some z1 → G 88 [(0, .ref (sq Y 0)), (1, .int a0), (2, .int x2_5), (3, .int x3_6)] [.int s11] m7 := by
            intro s11 hf
            unfold f_X8_pour_J88 at hf
            refine g_istore Γ (pc := 88) (lv' := [(5, .int s11), (0, .ref (sq Y 0)), (1, .int a0), (2, .int x2_5), (3, .int x3_6)]) dX8_pour_88 (by decide) rfl ?_
            refine g_iload_n Γ (pc := 90) 3 dX8_pour_90 rfl rfl ?_
            refine g_iload Γ (pc := 91) 0 dX8_pour_91 rfl ?_
            refine g_aload_n Γ (pc := 93) 1 dX8_pour_93 rfl rfl ?_
            refine g_bipush Γ (pc := 94) (v := 9) dX8_pour_94 rfl ?_
            refine g_iconst Γ (pc := 96) (v := 5) dX8_pour_96 rfl ?_
            refine g_iload_n Γ (pc := 97) 4 dX8_pour_97 rfl rfl ?_
            refine g_imul Γ (pc := 98) dX8_pour_98 ?_
            refine g_iadd Γ (pc := 99) dX8_pour_99 ?_
            refine g_iconst Γ (pc := 100) (v := 1) dX8_pour_100 rfl ?_
            refine g_iadd Γ (pc := 101) dX8_pour_101 ?_
            refine g_iload Γ (pc := 102) 0 dX8_pour_102 rfl ?_
            obtain ⟨v12, m13, h1, hf⟩ := bn2_i hf
            refine g_callVI Γ (pc := 104) (as := [.int ((9 + (5 * x3_6)) + 1), .int s11]) (st := [.int s11, .int x2_5]) dX8_pour_104 (c_X8_becomes hM h1) (M_obj hM) rfl mi_X8_becomes mv_X8_becomes kM_X8_132 rfl ⟨Nat.le_of_ble_eq_true rfl, Nat.le_of_ble_eq_true rfl⟩ rfl (Nat.le_of_ble_eq_true rfl) ?_
            have J_115 : ∀ (s14 : Int32), f_X8_pour_J115 x2_5 x3_6 m13 s14 = some z1 → G 115 [(0, .ref (sq Y 0)), (1, .int a0), (3, .int x3_6)] [.int s14, .int x2_5] m13 := by
              intro s14 hf
              unfold f_X8_pour_J115 at hf
              refine g_iadd Γ (pc := 115) dX8_pour_115 ?_
              refine g_istore_n Γ (pc := 116) (lv' := [(2, .int (x2_5 + s14)), (0, .ref (sq Y 0)), (1, .int a0), (3, .int x3_6)]) dX8_pour_116 rfl (by decide) rfl ?_
              refine g_iinc Γ (pc := 117) (v := x3_6 + 1) (lv' := [(3, .int (x3_6 + 1)), (2, .int (x2_5 + s14)), (0, .ref (sq Y 0)), (1, .int a0)]) 3 dX8_pour_117 rfl rfl (by decide) rfl ?_
              refine g_goto Γ (pc := 120) (tgt := 27) dX8_pour_120 rfl ?_
              refine g_sub Γ [2, 3, 1, 0] rfl ?_
              exact kI1 ((x2_5 + s14), x3_6 + 1, m13) (Option.some.inj hf).symm
            refine g_icmp_ne Γ (pc := 107) (tgt := 114) dX8_pour_107 rfl hf (fun hf => ?_) (fun hf => ?_)
            · refine g_iconst Γ (pc := 114) (v := 1) dX8_pour_114 rfl ?_
              refine g_sub Γ [1, 2, 4] rfl ?_
              exact J_115 1 hf
            · refine g_iconst Γ (pc := 110) (v := 0) dX8_pour_110 rfl ?_
              refine g_goto Γ (pc := 111) (tgt := 115) dX8_pour_111 rfl ?_
              refine g_sub Γ [1, 2, 4] rfl ?_
              exact J_115 0 hf
          refine g_icmp_ne Γ (pc := 64) (tgt := 83) dX8_pour_64 rfl hf (fun hf => ?_) (fun hf => ?_)
          · refine g_iload Γ (pc := 83) 0 dX8_pour_83 rfl ?_
            obtain ⟨v15, h1, hf⟩ := bn1_i hf
            refine g_callSI Γ (pc := 85) (as := [.int v10]) (st := []) dX8_pour_85 (c_X8_isFor h1) mi_X8_isFor ms_X8_isFor kM_X8_326 rfl ⟨Nat.le_of_ble_eq_true rfl, Nat.le_of_ble_eq_true rfl⟩ rfl (Nat.le_of_ble_eq_true rfl) ?_
            refine g_sub Γ [1, 2, 3, 4] rfl ?_
            exact J_88 v15 hf
          · refine g_aload_n Γ (pc := 67) 1 dX8_pour_67 rfl rfl ?_
            refine g_get Γ (pc := 68) (v := .ref (sq Y 1)) dX8_pour_68 (M_obj hM) fr_X8_7 rfl ?_
            refine g_bipush Γ (pc := 71) (v := 9) dX8_pour_71 rfl ?_
            refine g_iconst Γ (pc := 73) (v := 5) dX8_pour_73 rfl ?_
            refine g_iload_n Γ (pc := 74) 4 dX8_pour_74 rfl rfl ?_
            refine g_imul Γ (pc := 75) dX8_pour_75 ?_
            refine g_iadd Γ (pc := 76) dX8_pour_76 ?_
            refine g_iconst Γ (pc := 77) (v := 1) dX8_pour_77 rfl ?_
            refine g_iadd Γ (pc := 78) dX8_pour_78 ?_
            refine g_iald Γ (pc := 79) dX8_pour_79 (M_1 hM) hf (fun v16 hf => ?_)
            refine g_goto Γ (pc := 80) (tgt := 88) dX8_pour_80 rfl ?_
            refine g_sub Γ [1, 2, 3, 4] rfl ?_
            exact J_88 v16 hf
    · refine g_ldcw Γ (pc := 19) dX8_pour_19 kK_X8_320 ?_
      exact rI ret dX8_pour_22 hf
  · refine g_ldc Γ (pc := 7) dX8_pour_7 kK_X8_78 ?_
    exact rI ret dX8_pour_9 hf
def f_X8_reads_K25_72 (y2_3 : Int32) : Option (Int32) :=
  some y2_3
def f_X8_reads_K25_80  : Option (Int32) :=
  some (-1000000005)
def f_X8_reads_J74 (x2_4 : Int32) : Option (Int32 ⊕ (Int32 ⊕ Unit)) :=
  some (.inl (x2_4 + 1))
def f_X8_reads_L25 (a0 : Int32) (μ : Mem) (x2_4 : Int32) : Option (Int32 ⊕ (Int32 ⊕ Unit)) :=
  bn1 (ldM (μ 5) 4 a0) fun v5 =>
  if v5 ≤ x2_4 then
    some (.inr (.inr ()))
  else
    bn1 (ldM (μ 6) 96 ((24 * a0) + x2_4)) fun v6 =>
    if v6 = (-1000000005) then
      f_X8_reads_J74 x2_4
    else
      bn1 (ldM (μ 1) 3059 0) fun v7 =>
      if v7 ≤ x2_4 then
        some (.inr (.inl x2_4))
      else
        bn1 (f_X8_offOf x2_4 μ) fun v8 =>
        if v6 = v8 then
          f_X8_reads_J74 x2_4
        else
          some (.inr (.inl x2_4))
def f_X8_reads (a0 : Int32) (μ : Mem) : Option (Int32) :=
  bn1 (f_X8_isSheet a0) fun v1 =>
  if v1 = 0 then
    some (-1000000001)
  else
    bn1 (ldM (μ 4) 4 a0) fun v2 =>
    if 0 ≤ v2 then
      bn1 (lpF (fun v => f_X8_reads_L25 a0 μ v) 4000 0) (fun x => cs2 x (fun y => f_X8_reads_K25_72 y) (fun x0 => f_X8_reads_K25_80))
    else
      some (-1000000011)
set_option maxRecDepth 100000 in
set_option maxHeartbeats 4000000 in
theorem c_X8_reads {Y : SYS} (hM : IsM Y) {a0 : Int32} {μ : Mem} {x : Int32} (hf : f_X8_reads a0 μ = some x) : KC Y yX8_reads cX8_reads 4 (some .int) 3 [.ref (sq Y 0), .int a0] μ (some (.int x)) μ := by
  refine KC.I RX8 [(0, .ref (sq Y 0)), (1, .int a0)] (by decide) rfl (Nat.le_of_ble_eq_true rfl) rfl (fun G Γ ret => ?_)
  unfold f_X8_reads at hf
  refine g_iload_n Γ (pc := 0) 1 dX8_reads_0 rfl rfl ?_
  obtain ⟨v1, h1, hf⟩ := bn1_i hf
  refine g_callSI Γ (pc := 1) (as := [.int a0]) (st := []) dX8_reads_1 (c_X8_isSheet h1) mi_X8_isSheet ms_X8_isSheet kM_X8_314 rfl ⟨Nat.le_of_ble_eq_true rfl, Nat.le_of_ble_eq_true rfl⟩ rfl (Nat.le_of_ble_eq_true rfl) ?_
  refine g_if_ne Γ (pc := 4) (tgt := 10) dX8_reads_4 rfl hf (fun hf => ?_) (fun hf => ?_)
  · refine g_aload_n Γ (pc := 10) 0 dX8_reads_10 rfl rfl ?_
    refine g_get Γ (pc := 11) (v := .ref (sq Y 4)) dX8_reads_11 (M_obj hM) fr_X8_19 rfl ?_
    refine g_iload_n Γ (pc := 14) 1 dX8_reads_14 rfl rfl ?_
    refine g_iald Γ (pc := 15) dX8_reads_15 (M_4 hM) hf (fun v2 hf => ?_)
    refine g_if_ge Γ (pc := 16) (tgt := 23) dX8_reads_16 rfl hf (fun hf => ?_) (fun hf => ?_)
    · refine g_iconst Γ (pc := 23) (v := 0) dX8_reads_23 rfl ?_
      refine g_istore_n Γ (pc := 24) (lv' := [(2, .int 0), (0, .ref (sq Y 0)), (1, .int a0)]) dX8_reads_24 rfl (by decide) rfl ?_
      have K_25_72 : ∀ (y2_3 : Int32), f_X8_reads_K25_72 y2_3 = some x → G 72 [(2, .int y2_3)] [] μ := by
        intro y2_3 hf
        unfold f_X8_reads_K25_72 at hf
        refine g_iload_n Γ (pc := 72) 0 dX8_reads_72 rfl rfl ?_
        exact rIr ret dX8_reads_73 hf
      have K_25_80 : f_X8_reads_K25_80 = some x → G 80 [] [] μ := by
        intro hf
        unfold f_X8_reads_K25_80 at hf
        refine g_ldc Γ (pc := 80) dX8_reads_80 kK_X8_64 ?_
        exact rIr ret dX8_reads_82 hf
      refine g_sub Γ [1, 2, 0] rfl ?_
      refine lpF_s (P := fun (v : Int32) => G 25 [(0, .ref (sq Y 0)), (1, .int a0), (2, .int v)] [] μ) hf (fun v z1 hf kI1 kX1 => ?_)
      obtain ⟨x2_4, rfl⟩ : ∃ w, w = v := ⟨v, rfl⟩
      replace hf : f_X8_reads_L25 a0 μ x2_4 = some z1 := hf
      show G 25 [(0, .ref (sq Y 0)), (1, .int a0), (2, .int x2_4)] [] μ
      unfold f_X8_reads_L25 at hf
      refine g_iload_n Γ (pc := 25) 2 dX8_reads_25 rfl rfl ?_
      refine g_aload_n Γ (pc := 26) 0 dX8_reads_26 rfl rfl ?_
      refine g_get Γ (pc := 27) (v := .ref (sq Y 5)) dX8_reads_27 (M_obj hM) fr_X8_22 rfl ?_
      refine g_iload_n Γ (pc := 30) 1 dX8_reads_30 rfl rfl ?_
      refine g_iald Γ (pc := 31) dX8_reads_31 (M_5 hM) hf (fun v5 hf => ?_)
      refine g_icmp_ge Γ (pc := 32) (tgt := 80) dX8_reads_32 rfl hf (fun hf => ?_) (fun hf => ?_)
      · refine g_sub Γ [] rfl ?_
        exact K_25_80  (kX1 (.inr ()) (Option.some.inj hf).symm)
      · refine g_aload_n Γ (pc := 35) 0 dX8_reads_35 rfl rfl ?_
        refine g_get Γ (pc := 36) (v := .ref (sq Y 6)) dX8_reads_36 (M_obj hM) fr_X8_25 rfl ?_
        refine g_bipush Γ (pc := 39) (v := 24) dX8_reads_39 rfl ?_
        refine g_iload_n Γ (pc := 41) 1 dX8_reads_41 rfl rfl ?_
        refine g_imul Γ (pc := 42) dX8_reads_42 ?_
        refine g_iload_n Γ (pc := 43) 2 dX8_reads_43 rfl rfl ?_
        refine g_iadd Γ (pc := 44) dX8_reads_44 ?_
        refine g_iald Γ (pc := 45) dX8_reads_45 (M_6 hM) hf (fun v6 hf => ?_)
        refine g_istore_n Γ (pc := 46) (lv' := [(3, .int v6), (0, .ref (sq Y 0)), (1, .int a0), (2, .int x2_4)]) dX8_reads_46 rfl (by decide) rfl ?_
        refine g_iload_n Γ (pc := 47) 0 dX8_reads_47 rfl rfl ?_
        refine g_ldc Γ (pc := 48) dX8_reads_48 kK_X8_64 ?_
        have J_74 : f_X8_reads_J74 x2_4 = some z1 → G 74 [(0, .ref (sq Y 0)), (1, .int a0), (2, .int x2_4)] [] μ := by
          intro hf
          unfold f_X8_reads_J74 at hf
          refine g_iinc Γ (pc := 74) (v := x2_4 + 1) (lv' := [(2, .int (x2_4 + 1)), (0, .ref (sq Y 0)), (1, .int a0)]) 2 dX8_reads_74 rfl rfl (by decide) rfl ?_
          refine g_goto Γ (pc := 77) (tgt := 25) dX8_reads_77 rfl ?_
          refine g_sub Γ [1, 2, 0] rfl ?_
          exact kI1 (x2_4 + 1) (Option.some.inj hf).symm
        refine g_icmp_eq Γ (pc := 50) (tgt := 74) dX8_reads_50 rfl hf (fun hf => ?_) (fun hf => ?_)
        · refine g_sub Γ [1, 2, 3] rfl ?_
          exact J_74 hf
        · refine g_iload_n Γ (pc := 53) 3 dX8_reads_53 rfl rfl ?_
          refine g_aload_n Γ (pc := 54) 1 dX8_reads_54 rfl rfl ?_
          refine g_get Γ (pc := 55) (v := .ref (sq Y 1)) dX8_reads_55 (M_obj hM) fr_X8_7 rfl ?_
          refine g_iconst Γ (pc := 58) (v := 0) dX8_reads_58 rfl ?_
          refine g_iald Γ (pc := 59) dX8_reads_59 (M_1 hM) hf (fun v7 hf => ?_)
          refine g_icmp_ge Γ (pc := 60) (tgt := 72) dX8_reads_60 rfl hf (fun hf => ?_) (fun hf => ?_)
          · refine g_sub Γ [3] rfl ?_
            exact K_25_72 x2_4 (kX1 (.inl x2_4) (Option.some.inj hf).symm)
          · refine g_iload_n Γ (pc := 63) 0 dX8_reads_63 rfl rfl ?_
            refine g_aload_n Γ (pc := 64) 1 dX8_reads_64 rfl rfl ?_
            refine g_iload_n Γ (pc := 65) 3 dX8_reads_65 rfl rfl ?_
            obtain ⟨v8, h1, hf⟩ := bn1_i hf
            refine g_callVI Γ (pc := 66) (as := [.int x2_4]) (st := [.int v6]) dX8_reads_66 (c_X8_offOf hM h1) (M_obj hM) rfl mi_X8_offOf mv_X8_offOf kM_X8_101 rfl ⟨Nat.le_of_ble_eq_true rfl, Nat.le_of_ble_eq_true rfl⟩ rfl (Nat.le_of_ble_eq_true rfl) ?_
            refine g_icmp_eq Γ (pc := 69) (tgt := 74) dX8_reads_69 rfl hf (fun hf => ?_) (fun hf => ?_)
            · refine g_sub Γ [1, 2, 3] rfl ?_
              exact J_74 hf
            · refine g_sub Γ [3] rfl ?_
              exact K_25_72 x2_4 (kX1 (.inl x2_4) (Option.some.inj hf).symm)
    · refine g_ldcw Γ (pc := 19) dX8_reads_19 kK_X8_320 ?_
      exact rIr ret dX8_reads_22 hf
  · refine g_ldc Γ (pc := 7) dX8_reads_7 kK_X8_78 ?_
    exact rIr ret dX8_reads_9 hf
def f_X8_lied_K41_168 (a1 : Int32) (y3_4 : Int32) (y4_5 : Int32) : Option (Int32) :=
  if 0 ≤ y3_4 then
    if a1 = 0 then
      some y3_4
    else
      some y4_5
  else
    some (-1000000005)
def f_X8_lied_J162 (x5_8 : Int32) (x3_13 : Int32) (x4_14 : Int32) : Option ((Int32 × Int32 × Int32) ⊕ (Int32 × Int32)) :=
  some (.inl (x3_13, x4_14, x5_8 + 1))
def f_X8_lied_J155 (x5_8 : Int32) (y7_12 : Int32) : Option ((Int32 × Int32 × Int32) ⊕ (Int32 × Int32)) :=
  f_X8_lied_J162 x5_8 x5_8 y7_12
def f_X8_lied_K69_144 (x3_6 : Int32) (x4_7 : Int32) (x5_8 : Int32) (y7_12 : Int32) : Option ((Int32 × Int32 × Int32) ⊕ (Int32 × Int32)) :=
  if x3_6 < 0 then
    f_X8_lied_J155 x5_8 y7_12
  else
    if x4_7 ≤ y7_12 then
      f_X8_lied_J162 x5_8 x3_6 x4_7
    else
      f_X8_lied_J155 x5_8 y7_12
def f_X8_lied_J135 (x7_15 : Int32) (x8_16 : Int32) (s19 : Int32) : Option ((Int32 × Int32) ⊕ Int32) :=
  some (.inl ((x7_15 + s19), x8_16 + 1))
def f_X8_lied_J132 (x7_15 : Int32) (x8_16 : Int32) (v18 : Int32) (s21 : Int32) : Option ((Int32 × Int32) ⊕ Int32) :=
  bn1 (f_X8_off v18 s21) fun v22 =>
  f_X8_lied_J135 x7_15 x8_16 v22
def f_X8_lied_L69 (a0 : Int32) (μ : Mem) (e11 : Int32) (x7_15 : Int32) (x8_16 : Int32) : Option ((Int32 × Int32) ⊕ Int32) :=
  bn1 (ldM (μ 5) 4 a0) fun v17 =>
  if v17 ≤ x8_16 then
    some (.inr x7_15)
  else
    bn1 (ldM (μ 6) 96 ((24 * a0) + x8_16)) fun v18 =>
    if v18 = (-1000000005) then
      f_X8_lied_J135 x7_15 x8_16 0
    else
      bn1 (ldM (μ 1) 3059 0) fun v20 =>
      if v20 ≤ x8_16 then
        f_X8_lied_J132 x7_15 x8_16 v18 0
      else
        bn1 (f_X8_offBy x8_16 e11 μ) fun v23 =>
        f_X8_lied_J132 x7_15 x8_16 v18 v23
def f_X8_lied_L41 (a0 : Int32) (μ : Mem) (x3_6 : Int32) (x4_7 : Int32) (x5_8 : Int32) : Option ((Int32 × Int32 × Int32) ⊕ (Int32 × Int32)) :=
  bn1 (ldM (μ 1) 3059 0) fun v9 =>
  if v9 ≤ x5_8 then
    some (.inr (x3_6, x4_7))
  else
    bn1 (f_X8_forNow μ) fun v10 =>
    nm (v10 ^^^ (1 <<< (x5_8 &&& 31))) fun e11 =>
    bn1 (lpF (fun v => f_X8_lied_L69 a0 μ e11 v.1 v.2) 4000 (0, 0)) (fun x => f_X8_lied_K69_144 x3_6 x4_7 x5_8 x)
def f_X8_lied (a0 : Int32) (a1 : Int32) (μ : Mem) : Option (Int32) :=
  bn1 (f_X8_isSheet a0) fun v1 =>
  if v1 = 0 then
    some (-1000000001)
  else
    bn1 (f_X8_isIn a1.toInt64 0 1) fun v2 =>
    if v2 = 0 then
      some (-1000000001)
    else
      bn1 (ldM (μ 4) 4 a0) fun v3 =>
      if 0 ≤ v3 then
        bn1 (lpF (fun v => f_X8_lied_L41 a0 μ v.1 v.2.1 v.2.2) 4000 ((-1), 0, 0)) (fun x => f_X8_lied_K41_168 a1 x.1 x.2)
      else
        some (-1000000011)
set_option maxRecDepth 100000 in
set_option maxHeartbeats 4000000 in
theorem c_X8_lied {Y : SYS} (hM : IsM Y) {a0 : Int32} {a1 : Int32} {μ : Mem} {x : Int32} (hf : f_X8_lied a0 a1 μ = some x) : KC Y yX8_lied cX8_lied 10 (some .int) 2 [.ref (sq Y 0), .int a0, .int a1] μ (some (.int x)) μ := by
  refine KC.I RX8 [(0, .ref (sq Y 0)), (1, .int a0), (2, .int a1)] (by decide) rfl (Nat.le_of_ble_eq_true rfl) rfl (fun G Γ ret => ?_)
  unfold f_X8_lied at hf
  refine g_iload_n Γ (pc := 0) 1 dX8_lied_0 rfl rfl ?_
  obtain ⟨v1, h1, hf⟩ := bn1_i hf
  refine g_callSI Γ (pc := 1) (as := [.int a0]) (st := []) dX8_lied_1 (c_X8_isSheet h1) mi_X8_isSheet ms_X8_isSheet kM_X8_314 rfl ⟨Nat.le_of_ble_eq_true rfl, Nat.le_of_ble_eq_true rfl⟩ rfl (Nat.le_of_ble_eq_true rfl) ?_
  refine g_if_eq Γ (pc := 4) (tgt := 17) dX8_lied_4 rfl hf (fun hf => ?_) (fun hf => ?_)
  · refine g_ldc Γ (pc := 17) dX8_lied_17 kK_X8_78 ?_
    exact rIr ret dX8_lied_19 hf
  · refine g_iload_n Γ (pc := 7) 2 dX8_lied_7 rfl rfl ?_
    refine g_i2l Γ (pc := 8) dX8_lied_8 ?_
    refine g_lconst Γ (pc := 9) (v := 0) dX8_lied_9 rfl ?_
    refine g_lconst Γ (pc := 10) (v := 1) dX8_lied_10 rfl ?_
    obtain ⟨v2, h1, hf⟩ := bn1_i hf
    refine g_callSI Γ (pc := 11) (as := [.long a1.toInt64, .long 0, .long 1]) (st := []) dX8_lied_11 (c_X8_isIn h1) mi_X8_isIn ms_X8_isIn kM_X8_65 rfl ⟨Nat.le_of_ble_eq_true rfl, Nat.le_of_ble_eq_true rfl⟩ rfl (Nat.le_of_ble_eq_true rfl) ?_
    refine g_if_ne Γ (pc := 14) (tgt := 20) dX8_lied_14 rfl hf (fun hf => ?_) (fun hf => ?_)
    · refine g_aload_n Γ (pc := 20) 0 dX8_lied_20 rfl rfl ?_
      refine g_get Γ (pc := 21) (v := .ref (sq Y 4)) dX8_lied_21 (M_obj hM) fr_X8_19 rfl ?_
      refine g_iload_n Γ (pc := 24) 1 dX8_lied_24 rfl rfl ?_
      refine g_iald Γ (pc := 25) dX8_lied_25 (M_4 hM) hf (fun v3 hf => ?_)
      refine g_if_ge Γ (pc := 26) (tgt := 33) dX8_lied_26 rfl hf (fun hf => ?_) (fun hf => ?_)
      · refine g_iconst Γ (pc := 33) (v := (-1)) dX8_lied_33 rfl ?_
        refine g_istore_n Γ (pc := 34) (lv' := [(3, .int (-1)), (0, .ref (sq Y 0)), (1, .int a0), (2, .int a1)]) dX8_lied_34 rfl (by decide) rfl ?_
        refine g_iconst Γ (pc := 35) (v := 0) dX8_lied_35 rfl ?_
        refine g_istore Γ (pc := 36) (lv' := [(4, .int 0), (3, .int (-1)), (0, .ref (sq Y 0)), (1, .int a0), (2, .int a1)]) dX8_lied_36 (by decide) rfl ?_
        refine g_iconst Γ (pc := 38) (v := 0) dX8_lied_38 rfl ?_
        refine g_istore Γ (pc := 39) (lv' := [(5, .int 0), (4, .int 0), (3, .int (-1)), (0, .ref (sq Y 0)), (1, .int a0), (2, .int a1)]) dX8_lied_39 (by decide) rfl ?_
        have K_41_168 : ∀ (y3_4 : Int32) (y4_5 : Int32), f_X8_lied_K41_168 a1 y3_4 y4_5 = some x → G 168 [(2, .int a1), (3, .int y3_4), (4, .int y4_5)] [] μ := by
          intro y3_4 y4_5 hf
          unfold f_X8_lied_K41_168 at hf
          refine g_iload_n Γ (pc := 168) 1 dX8_lied_168 rfl rfl ?_
          refine g_if_ge Γ (pc := 169) (tgt := 177) dX8_lied_169 rfl hf (fun hf => ?_) (fun hf => ?_)
          · refine g_iload_n Γ (pc := 177) 0 dX8_lied_177 rfl rfl ?_
            refine g_if_ne Γ (pc := 178) (tgt := 185) dX8_lied_178 rfl hf (fun hf => ?_) (fun hf => ?_)
            · refine g_iload Γ (pc := 185) 2 dX8_lied_185 rfl ?_
              exact rIr ret dX8_lied_187 hf
            · refine g_iload_n Γ (pc := 181) 1 dX8_lied_181 rfl rfl ?_
              refine g_goto Γ (pc := 182) (tgt := 187) dX8_lied_182 rfl ?_
              exact rIr ret dX8_lied_187 hf
          · refine g_ldc Γ (pc := 172) dX8_lied_172 kK_X8_64 ?_
            refine g_goto Γ (pc := 174) (tgt := 187) dX8_lied_174 rfl ?_
            exact rIr ret dX8_lied_187 hf
        refine g_sub Γ [3, 4, 5, 2, 1, 0] rfl ?_
        refine lpF_s (P := fun (v : Int32 × Int32 × Int32) => G 41 [(0, .ref (sq Y 0)), (1, .int a0), (2, .int a1), (3, .int v.1), (4, .int v.2.1), (5, .int v.2.2)] [] μ) hf (fun v z1 hf kI1 kX1 => ?_)
        obtain ⟨x3_6, x4_7, x5_8⟩ := v
        replace hf : f_X8_lied_L41 a0 μ x3_6 x4_7 x5_8 = some z1 := hf
        show G 41 [(0, .ref (sq Y 0)), (1, .int a0), (2, .int a1), (3, .int x3_6), (4, .int x4_7), (5, .int x5_8)] [] μ
        unfold f_X8_lied_L41 at hf
        refine g_iload Γ (pc := 41) 5 dX8_lied_41 rfl ?_
        refine g_aload_n Γ (pc := 43) 0 dX8_lied_43 rfl rfl ?_
        refine g_get Γ (pc := 44) (v := .ref (sq Y 1)) dX8_lied_44 (M_obj hM) fr_X8_7 rfl ?_
        refine g_iconst Γ (pc := 47) (v := 0) dX8_lied_47 rfl ?_
        refine g_iald Γ (pc := 48) dX8_lied_48 (M_1 hM) hf (fun v9 hf => ?_)
        refine g_icmp_ge Γ (pc := 49) (tgt := 168) dX8_lied_49 rfl hf (fun hf => ?_) (fun hf => ?_)
        · refine g_sub Γ [2, 3, 4] rfl ?_
          exact K_41_168 x3_6 x4_7 (kX1 (x3_6, x4_7) (Option.some.inj hf).symm)
        · refine g_aload_n Γ (pc := 52) 0 dX8_lied_52 rfl rfl ?_
          obtain ⟨v10, h1, hf⟩ := bn1_i hf
          refine g_callVI Γ (pc := 53) (as := []) (st := []) dX8_lied_53 (c_X8_forNow hM h1) (M_obj hM) rfl mi_X8_forNow mv_X8_forNow kM_X8_94 rfl ⟨Nat.le_of_ble_eq_true rfl, Nat.le_of_ble_eq_true rfl⟩ rfl (Nat.le_of_ble_eq_true rfl) ?_
          refine g_iconst Γ (pc := 56) (v := 1) dX8_lied_56 rfl ?_
          refine g_iload Γ (pc := 57) 5 dX8_lied_57 rfl ?_
          refine g_ishl Γ (pc := 59) dX8_lied_59 ?_
          refine g_ixor Γ (pc := 60) dX8_lied_60 ?_
          refine g_nmi hf (fun e11 hf => ?_)
          refine g_istore Γ (pc := 61) (lv' := [(6, .int e11), (0, .ref (sq Y 0)), (1, .int a0), (2, .int a1), (3, .int x3_6), (4, .int x4_7), (5, .int x5_8)]) dX8_lied_61 (by decide) rfl ?_
          refine g_iconst Γ (pc := 63) (v := 0) dX8_lied_63 rfl ?_
          refine g_istore Γ (pc := 64) (lv' := [(7, .int 0), (6, .int e11), (0, .ref (sq Y 0)), (1, .int a0), (2, .int a1), (3, .int x3_6), (4, .int x4_7), (5, .int x5_8)]) dX8_lied_64 (by decide) rfl ?_
          refine g_iconst Γ (pc := 66) (v := 0) dX8_lied_66 rfl ?_
          refine g_istore Γ (pc := 67) (lv' := [(8, .int 0), (7, .int 0), (6, .int e11), (0, .ref (sq Y 0)), (1, .int a0), (2, .int a1), (3, .int x3_6), (4, .int x4_7), (5, .int x5_8)]) dX8_lied_67 (by decide) rfl ?_
          have K_69_144 : ∀ (y7_12 : Int32), f_X8_lied_K69_144 x3_6 x4_7 x5_8 y7_12 = some z1 → G 144 [(0, .ref (sq Y 0)), (1, .int a0), (2, .int a1), (3, .int x3_6), (4, .int x4_7), (5, .int x5_8), (7, .int y7_12)] [] μ := by
            intro y7_12 hf
            unfold f_X8_lied_K69_144 at hf
            refine g_iload_n Γ (pc := 144) 3 dX8_lied_144 rfl rfl ?_
            have J_162 : ∀ (x3_13 : Int32) (x4_14 : Int32), f_X8_lied_J162 x5_8 x3_13 x4_14 = some z1 → G 162 [(0, .ref (sq Y 0)), (1, .int a0), (2, .int a1), (3, .int x3_13), (4, .int x4_14), (5, .int x5_8)] [] μ := by
              intro x3_13 x4_14 hf
              unfold f_X8_lied_J162 at hf
              refine g_iinc Γ (pc := 162) (v := x5_8 + 1) (lv' := [(5, .int (x5_8 + 1)), (0, .ref (sq Y 0)), (1, .int a0), (2, .int a1), (3, .int x3_13), (4, .int x4_14)]) 5 dX8_lied_162 rfl rfl (by decide) rfl ?_
              refine g_goto Γ (pc := 165) (tgt := 41) dX8_lied_165 rfl ?_
              refine g_sub Γ [1, 2, 3, 4, 5, 0] rfl ?_
              exact kI1 (x3_13, x4_14, x5_8 + 1) (Option.some.inj hf).symm
            have J_155 : f_X8_lied_J155 x5_8 y7_12 = some z1 → G 155 [(0, .ref (sq Y 0)), (1, .int a0), (2, .int a1), (5, .int x5_8), (7, .int y7_12)] [] μ := by
              intro hf
              unfold f_X8_lied_J155 at hf
              refine g_iload Γ (pc := 155) 3 dX8_lied_155 rfl ?_
              refine g_istore_n Γ (pc := 157) (lv' := [(3, .int x5_8), (0, .ref (sq Y 0)), (1, .int a0), (2, .int a1), (5, .int x5_8), (7, .int y7_12)]) dX8_lied_157 rfl (by decide) rfl ?_
              refine g_iload Γ (pc := 158) 5 dX8_lied_158 rfl ?_
              refine g_istore Γ (pc := 160) (lv' := [(4, .int y7_12), (3, .int x5_8), (0, .ref (sq Y 0)), (1, .int a0), (2, .int a1), (5, .int x5_8), (7, .int y7_12)]) dX8_lied_160 (by decide) rfl ?_
              refine g_sub Γ [2, 3, 4, 1, 0, 5] rfl ?_
              exact J_162 x5_8 y7_12 hf
            refine g_if_lt Γ (pc := 145) (tgt := 155) dX8_lied_145 rfl hf (fun hf => ?_) (fun hf => ?_)
            · refine g_sub Γ [0, 1, 2, 5, 6] rfl ?_
              exact J_155 hf
            · refine g_iload Γ (pc := 148) 6 dX8_lied_148 rfl ?_
              refine g_iload Γ (pc := 150) 4 dX8_lied_150 rfl ?_
              refine g_icmp_ge Γ (pc := 152) (tgt := 162) dX8_lied_152 rfl hf (fun hf => ?_) (fun hf => ?_)
              · refine g_sub Γ [0, 1, 2, 3, 4, 5] rfl ?_
                exact J_162 x3_6 x4_7 hf
              · refine g_sub Γ [0, 1, 2, 5, 6] rfl ?_
                exact J_155 hf
          refine g_sub Γ [3, 4, 5, 6, 7, 8, 2, 1, 0] rfl ?_
          refine lpF_s (P := fun (v : Int32 × Int32) => G 69 [(0, .ref (sq Y 0)), (1, .int a0), (2, .int a1), (3, .int x3_6), (4, .int x4_7), (5, .int x5_8), (6, .int e11), (7, .int v.1), (8, .int v.2)] [] μ) hf (fun v z2 hf kI2 kX2 => ?_)
          obtain ⟨x7_15, x8_16⟩ := v
          replace hf : f_X8_lied_L69 a0 μ e11 x7_15 x8_16 = some z2 := hf
          show G 69 [(0, .ref (sq Y 0)), (1, .int a0), (2, .int a1), (3, .int x3_6), (4, .int x4_7), (5, .int x5_8), (6, .int e11), (7, .int x7_15), (8, .int x8_16)] [] μ
          unfold f_X8_lied_L69 at hf
          refine g_iload Γ (pc := 69) 8 dX8_lied_69 rfl ?_
          refine g_aload_n Γ (pc := 71) 0 dX8_lied_71 rfl rfl ?_
          refine g_get Γ (pc := 72) (v := .ref (sq Y 5)) dX8_lied_72 (M_obj hM) fr_X8_22 rfl ?_
          refine g_iload_n Γ (pc := 75) 1 dX8_lied_75 rfl rfl ?_
          refine g_iald Γ (pc := 76) dX8_lied_76 (M_5 hM) hf (fun v17 hf => ?_)
          refine g_icmp_ge Γ (pc := 77) (tgt := 144) dX8_lied_77 rfl hf (fun hf => ?_) (fun hf => ?_)
          · refine g_sub Γ [0, 1, 2, 3, 4, 5, 7] rfl ?_
            exact K_69_144 x7_15 (kX2 x7_15 (Option.some.inj hf).symm)
          · refine g_aload_n Γ (pc := 80) 0 dX8_lied_80 rfl rfl ?_
            refine g_get Γ (pc := 81) (v := .ref (sq Y 6)) dX8_lied_81 (M_obj hM) fr_X8_25 rfl ?_
            refine g_bipush Γ (pc := 84) (v := 24) dX8_lied_84 rfl ?_
            refine g_iload_n Γ (pc := 86) 1 dX8_lied_86 rfl rfl ?_
            refine g_imul Γ (pc := 87) dX8_lied_87 ?_
            refine g_iload Γ (pc := 88) 8 dX8_lied_88 rfl ?_
            refine g_iadd Γ (pc := 90) dX8_lied_90 ?_
            refine g_iald Γ (pc := 91) dX8_lied_91 (M_6 hM) hf (fun v18 hf => ?_)
            refine g_istore Γ (pc := 92) (lv' := [(9, .int v18), (0, .ref (sq Y 0)), (1, .int a0), (2, .int a1), (3, .int x3_6), (4, .int x4_7), (5, .int x5_8), (6, .int e11), (7, .int x7_15), (8, .int x8_16)]) dX8_lied_92 (by decide) rfl ?_
            refine g_iload Γ (pc := 94) 8 dX8_lied_94 rfl ?_
            refine g_iload Γ (pc := 96) 0 dX8_lied_96 rfl ?_
            refine g_ldc Γ (pc := 98) dX8_lied_98 kK_X8_64 ?_
            have J_135 : ∀ (s19 : Int32), f_X8_lied_J135 x7_15 x8_16 s19 = some z2 → G 135 [(0, .ref (sq Y 0)), (1, .int a0), (2, .int a1), (3, .int x3_6), (4, .int x4_7), (5, .int x5_8), (6, .int e11), (8, .int x8_16)] [.int s19, .int x7_15] μ := by
              intro s19 hf
              unfold f_X8_lied_J135 at hf
              refine g_iadd Γ (pc := 135) dX8_lied_135 ?_
              refine g_istore Γ (pc := 136) (lv' := [(7, .int (x7_15 + s19)), (0, .ref (sq Y 0)), (1, .int a0), (2, .int a1), (3, .int x3_6), (4, .int x4_7), (5, .int x5_8), (6, .int e11), (8, .int x8_16)]) dX8_lied_136 (by decide) rfl ?_
              refine g_iinc Γ (pc := 138) (v := x8_16 + 1) (lv' := [(8, .int (x8_16 + 1)), (7, .int (x7_15 + s19)), (0, .ref (sq Y 0)), (1, .int a0), (2, .int a1), (3, .int x3_6), (4, .int x4_7), (5, .int x5_8), (6, .int e11)]) 8 dX8_lied_138 rfl rfl (by decide) rfl ?_
              refine g_goto Γ (pc := 141) (tgt := 69) dX8_lied_141 rfl ?_
              refine g_sub Γ [2, 3, 4, 5, 6, 7, 8, 1, 0] rfl ?_
              exact kI2 ((x7_15 + s19), x8_16 + 1) (Option.some.inj hf).symm
            refine g_icmp_ne Γ (pc := 100) (tgt := 107) dX8_lied_100 rfl hf (fun hf => ?_) (fun hf => ?_)
            · refine g_iload Γ (pc := 107) 0 dX8_lied_107 rfl ?_
              refine g_iload Γ (pc := 109) 9 dX8_lied_109 rfl ?_
              refine g_aload_n Γ (pc := 111) 1 dX8_lied_111 rfl rfl ?_
              refine g_get Γ (pc := 112) (v := .ref (sq Y 1)) dX8_lied_112 (M_obj hM) fr_X8_7 rfl ?_
              refine g_iconst Γ (pc := 115) (v := 0) dX8_lied_115 rfl ?_
              refine g_iald Γ (pc := 116) dX8_lied_116 (M_1 hM) hf (fun v20 hf => ?_)
              have J_132 : ∀ (s21 : Int32), f_X8_lied_J132 x7_15 x8_16 v18 s21 = some z2 → G 132 [(0, .ref (sq Y 0)), (1, .int a0), (2, .int a1), (3, .int x3_6), (4, .int x4_7), (5, .int x5_8), (6, .int e11), (8, .int x8_16)] [.int s21, .int v18, .int x7_15] μ := by
                intro s21 hf
                unfold f_X8_lied_J132 at hf
                obtain ⟨v22, h1, hf⟩ := bn1_i hf
                refine g_callSI Γ (pc := 132) (as := [.int v18, .int s21]) (st := [.int x7_15]) dX8_lied_132 (c_X8_off h1) mi_X8_off ms_X8_off kM_X8_91 rfl ⟨Nat.le_of_ble_eq_true rfl, Nat.le_of_ble_eq_true rfl⟩ rfl (Nat.le_of_ble_eq_true rfl) ?_
                refine g_sub Γ [0, 1, 2, 3, 4, 5, 6, 7] rfl ?_
                exact J_135 v22 hf
              refine g_icmp_ge Γ (pc := 117) (tgt := 131) dX8_lied_117 rfl hf (fun hf => ?_) (fun hf => ?_)
              · refine g_iconst Γ (pc := 131) (v := 0) dX8_lied_131 rfl ?_
                refine g_sub Γ [1, 2, 3, 4, 5, 6, 7, 9] rfl ?_
                exact J_132 0 hf
              · refine g_aload_n Γ (pc := 120) 1 dX8_lied_120 rfl rfl ?_
                refine g_iload Γ (pc := 121) 9 dX8_lied_121 rfl ?_
                refine g_iload Γ (pc := 123) 7 dX8_lied_123 rfl ?_
                obtain ⟨v23, h1, hf⟩ := bn1_i hf
                refine g_callVI Γ (pc := 125) (as := [.int x8_16, .int e11]) (st := [.int v18, .int x7_15]) dX8_lied_125 (c_X8_offBy hM h1) (M_obj hM) rfl mi_X8_offBy mv_X8_offBy kM_X8_98 rfl ⟨Nat.le_of_ble_eq_true rfl, Nat.le_of_ble_eq_true rfl⟩ rfl (Nat.le_of_ble_eq_true rfl) ?_
                refine g_goto Γ (pc := 128) (tgt := 132) dX8_lied_128 rfl ?_
                refine g_sub Γ [1, 2, 3, 4, 5, 6, 7, 9] rfl ?_
                exact J_132 v23 hf
            · refine g_iconst Γ (pc := 103) (v := 0) dX8_lied_103 rfl ?_
              refine g_goto Γ (pc := 104) (tgt := 135) dX8_lied_104 rfl ?_
              refine g_sub Γ [1, 2, 3, 4, 5, 6, 7, 9] rfl ?_
              exact J_135 0 hf
      · refine g_ldcw Γ (pc := 29) dX8_lied_29 kK_X8_320 ?_
        exact rIr ret dX8_lied_32 hf
    · refine g_ldc Γ (pc := 17) dX8_lied_17 kK_X8_78 ?_
      exact rIr ret dX8_lied_19 hf
def f_X8_copy_K150_185 (a4 : Int32) (m10 : Mem) : Option (Int32 × Mem) :=
  some (a4, m10)
def f_X8_copy_L150 (a2 : Int32) (a3 : Int32) (a4 : Int32) (x6_11 : Int32) (m12 : Mem) : Option ((Int32 × Mem) ⊕ Mem) :=
  if a4 ≤ x6_11 then
    some (.inr m12)
  else
    bn1 (ldM (m12 16) 24 x6_11) fun v13 =>
    bn1 (stM m12 6 96 (((24 * a2) + a3) + x6_11) v13) fun m14 =>
    some (.inl (x6_11 + 1, m14))
def f_X8_copy_K113_147 (a2 : Int32) (a3 : Int32) (a4 : Int32) (m9 : Mem) : Option (Int32 × Mem) :=
  bn1 (lpF (fun v => f_X8_copy_L150 a2 a3 a4 v.1 v.2) 4000 (0, m9)) (fun x => f_X8_copy_K150_185 a4 x)
def f_X8_copy_L113 (a0 : Int32) (a1 : Int32) (a4 : Int32) (x6_15 : Int32) (m16 : Mem) : Option ((Int32 × Mem) ⊕ Mem) :=
  if a4 ≤ x6_15 then
    some (.inr m16)
  else
    bn1 (ldM (m16 6) 96 (((24 * a0) + a1) + x6_15)) fun v17 =>
    bn1 (stM m16 16 24 x6_15 v17) fun m18 =>
    some (.inl (x6_15 + 1, m18))
def f_X8_copy (a0 : Int32) (a1 : Int32) (a2 : Int32) (a3 : Int32) (a4 : Int32) (μ : Mem) : Option (Int32 × Mem) :=
  bn1 (f_X8_isSheet a0) fun v1 =>
  if v1 = 0 then
    some ((-1000000001), μ)
  else
    bn1 (f_X8_isSheet a2) fun v2 =>
    if v2 = 0 then
      some ((-1000000001), μ)
    else
      bn1 (ldM (μ 4) 4 a0) fun v3 =>
      if v3 < 0 then
        some ((-1000000011), μ)
      else
        bn1 (ldM (μ 4) 4 a2) fun v4 =>
        if 0 ≤ v4 then
          bn1 (ldM (μ 4) 4 a0) fun v5 =>
          bn1 (ldM (μ 4) 4 a2) fun v6 =>
          if v5 = v6 then
            if a1 < 0 then
              some ((-1000000013), μ)
            else
              if a3 < 0 then
                some ((-1000000013), μ)
              else
                if a4 < 0 then
                  some ((-1000000013), μ)
                else
                  bn1 (ldM (μ 5) 4 a0) fun v7 =>
                  if 0 < (lg_cmp (a1.toInt64 + a4.toInt64) v7.toInt64) then
                    some ((-1000000013), μ)
                  else
                    bn1 (ldM (μ 5) 4 a2) fun v8 =>
                    if (lg_cmp (a3.toInt64 + a4.toInt64) v8.toInt64) ≤ 0 then
                      bn1 (lpF (fun v => f_X8_copy_L113 a0 a1 a4 v.1 v.2) 4000 (0, μ)) (fun x => f_X8_copy_K113_147 a2 a3 a4 x)
                    else
                      some ((-1000000013), μ)
          else
            some ((-1000000012), μ)
        else
          some ((-1000000011), μ)
set_option maxRecDepth 100000 in
set_option maxHeartbeats 4000000 in
theorem c_X8_copy {Y : SYS} (hM : IsM Y) {a0 : Int32} {a1 : Int32} {a2 : Int32} {a3 : Int32} {a4 : Int32} {μ : Mem} {x : Int32} {m : Mem} (hf : f_X8_copy a0 a1 a2 a3 a4 μ = some (x, m)) : KC Y yX8_copy cX8_copy 7 (some .int) 2 [.ref (sq Y 0), .int a0, .int a1, .int a2, .int a3, .int a4] μ (some (.int x)) m := by
  refine KC.I RX8 [(0, .ref (sq Y 0)), (1, .int a0), (2, .int a1), (3, .int a2), (4, .int a3), (5, .int a4)] (by decide) rfl (Nat.le_of_ble_eq_true rfl) rfl (fun G Γ ret => ?_)
  unfold f_X8_copy at hf
  refine g_iload_n Γ (pc := 0) 1 dX8_copy_0 rfl rfl ?_
  obtain ⟨v1, h1, hf⟩ := bn1_i hf
  refine g_callSI Γ (pc := 1) (as := [.int a0]) (st := []) dX8_copy_1 (c_X8_isSheet h1) mi_X8_isSheet ms_X8_isSheet kM_X8_314 rfl ⟨Nat.le_of_ble_eq_true rfl, Nat.le_of_ble_eq_true rfl⟩ rfl (Nat.le_of_ble_eq_true rfl) ?_
  refine g_if_eq Γ (pc := 4) (tgt := 14) dX8_copy_4 rfl hf (fun hf => ?_) (fun hf => ?_)
  · refine g_ldc Γ (pc := 14) dX8_copy_14 kK_X8_78 ?_
    exact rI ret dX8_copy_16 hf
  · refine g_iload_n Γ (pc := 7) 3 dX8_copy_7 rfl rfl ?_
    obtain ⟨v2, h1, hf⟩ := bn1_i hf
    refine g_callSI Γ (pc := 8) (as := [.int a2]) (st := []) dX8_copy_8 (c_X8_isSheet h1) mi_X8_isSheet ms_X8_isSheet kM_X8_314 rfl ⟨Nat.le_of_ble_eq_true rfl, Nat.le_of_ble_eq_true rfl⟩ rfl (Nat.le_of_ble_eq_true rfl) ?_
    refine g_if_ne Γ (pc := 11) (tgt := 17) dX8_copy_11 rfl hf (fun hf => ?_) (fun hf => ?_)
    · refine g_aload_n Γ (pc := 17) 0 dX8_copy_17 rfl rfl ?_
      refine g_get Γ (pc := 18) (v := .ref (sq Y 4)) dX8_copy_18 (M_obj hM) fr_X8_19 rfl ?_
      refine g_iload_n Γ (pc := 21) 1 dX8_copy_21 rfl rfl ?_
      refine g_iald Γ (pc := 22) dX8_copy_22 (M_4 hM) hf (fun v3 hf => ?_)
      refine g_if_lt Γ (pc := 23) (tgt := 35) dX8_copy_23 rfl hf (fun hf => ?_) (fun hf => ?_)
      · refine g_ldcw Γ (pc := 35) dX8_copy_35 kK_X8_320 ?_
        exact rI ret dX8_copy_38 hf
      · refine g_aload_n Γ (pc := 26) 0 dX8_copy_26 rfl rfl ?_
        refine g_get Γ (pc := 27) (v := .ref (sq Y 4)) dX8_copy_27 (M_obj hM) fr_X8_19 rfl ?_
        refine g_iload_n Γ (pc := 30) 3 dX8_copy_30 rfl rfl ?_
        refine g_iald Γ (pc := 31) dX8_copy_31 (M_4 hM) hf (fun v4 hf => ?_)
        refine g_if_ge Γ (pc := 32) (tgt := 39) dX8_copy_32 rfl hf (fun hf => ?_) (fun hf => ?_)
        · refine g_aload_n Γ (pc := 39) 0 dX8_copy_39 rfl rfl ?_
          refine g_get Γ (pc := 40) (v := .ref (sq Y 4)) dX8_copy_40 (M_obj hM) fr_X8_19 rfl ?_
          refine g_iload_n Γ (pc := 43) 1 dX8_copy_43 rfl rfl ?_
          refine g_iald Γ (pc := 44) dX8_copy_44 (M_4 hM) hf (fun v5 hf => ?_)
          refine g_aload_n Γ (pc := 45) 0 dX8_copy_45 rfl rfl ?_
          refine g_get Γ (pc := 46) (v := .ref (sq Y 4)) dX8_copy_46 (M_obj hM) fr_X8_19 rfl ?_
          refine g_iload_n Γ (pc := 49) 3 dX8_copy_49 rfl rfl ?_
          refine g_iald Γ (pc := 50) dX8_copy_50 (M_4 hM) hf (fun v6 hf => ?_)
          refine g_icmp_eq Γ (pc := 51) (tgt := 57) dX8_copy_51 rfl hf (fun hf => ?_) (fun hf => ?_)
          · refine g_iload_n Γ (pc := 57) 2 dX8_copy_57 rfl rfl ?_
            refine g_if_lt Γ (pc := 58) (tgt := 106) dX8_copy_58 rfl hf (fun hf => ?_) (fun hf => ?_)
            · refine g_ldcw Γ (pc := 106) dX8_copy_106 kK_X8_321 ?_
              exact rI ret dX8_copy_109 hf
            · refine g_iload Γ (pc := 61) 4 dX8_copy_61 rfl ?_
              refine g_if_lt Γ (pc := 63) (tgt := 106) dX8_copy_63 rfl hf (fun hf => ?_) (fun hf => ?_)
              · refine g_ldcw Γ (pc := 106) dX8_copy_106 kK_X8_321 ?_
                exact rI ret dX8_copy_109 hf
              · refine g_iload Γ (pc := 66) 5 dX8_copy_66 rfl ?_
                refine g_if_lt Γ (pc := 68) (tgt := 106) dX8_copy_68 rfl hf (fun hf => ?_) (fun hf => ?_)
                · refine g_ldcw Γ (pc := 106) dX8_copy_106 kK_X8_321 ?_
                  exact rI ret dX8_copy_109 hf
                · refine g_iload_n Γ (pc := 71) 2 dX8_copy_71 rfl rfl ?_
                  refine g_i2l Γ (pc := 72) dX8_copy_72 ?_
                  refine g_iload Γ (pc := 73) 5 dX8_copy_73 rfl ?_
                  refine g_i2l Γ (pc := 75) dX8_copy_75 ?_
                  refine g_ladd Γ (pc := 76) dX8_copy_76 ?_
                  refine g_aload_n Γ (pc := 77) 0 dX8_copy_77 rfl rfl ?_
                  refine g_get Γ (pc := 78) (v := .ref (sq Y 5)) dX8_copy_78 (M_obj hM) fr_X8_22 rfl ?_
                  refine g_iload_n Γ (pc := 81) 1 dX8_copy_81 rfl rfl ?_
                  refine g_iald Γ (pc := 82) dX8_copy_82 (M_5 hM) hf (fun v7 hf => ?_)
                  refine g_i2l Γ (pc := 83) dX8_copy_83 ?_
                  refine g_lcmp Γ (pc := 84) dX8_copy_84 ?_
                  refine g_if_gt Γ (pc := 85) (tgt := 106) dX8_copy_85 rfl hf (fun hf => ?_) (fun hf => ?_)
                  · refine g_ldcw Γ (pc := 106) dX8_copy_106 kK_X8_321 ?_
                    exact rI ret dX8_copy_109 hf
                  · refine g_iload Γ (pc := 88) 4 dX8_copy_88 rfl ?_
                    refine g_i2l Γ (pc := 90) dX8_copy_90 ?_
                    refine g_iload Γ (pc := 91) 5 dX8_copy_91 rfl ?_
                    refine g_i2l Γ (pc := 93) dX8_copy_93 ?_
                    refine g_ladd Γ (pc := 94) dX8_copy_94 ?_
                    refine g_aload_n Γ (pc := 95) 0 dX8_copy_95 rfl rfl ?_
                    refine g_get Γ (pc := 96) (v := .ref (sq Y 5)) dX8_copy_96 (M_obj hM) fr_X8_22 rfl ?_
                    refine g_iload_n Γ (pc := 99) 3 dX8_copy_99 rfl rfl ?_
                    refine g_iald Γ (pc := 100) dX8_copy_100 (M_5 hM) hf (fun v8 hf => ?_)
                    refine g_i2l Γ (pc := 101) dX8_copy_101 ?_
                    refine g_lcmp Γ (pc := 102) dX8_copy_102 ?_
                    refine g_if_le Γ (pc := 103) (tgt := 110) dX8_copy_103 rfl hf (fun hf => ?_) (fun hf => ?_)
                    · refine g_iconst Γ (pc := 110) (v := 0) dX8_copy_110 rfl ?_
                      refine g_istore Γ (pc := 111) (lv' := [(6, .int 0), (0, .ref (sq Y 0)), (1, .int a0), (2, .int a1), (3, .int a2), (4, .int a3), (5, .int a4)]) dX8_copy_111 (by decide) rfl ?_
                      have K_113_147 : ∀ (m9 : Mem), f_X8_copy_K113_147 a2 a3 a4 m9 = some (x, m) → G 147 [(0, .ref (sq Y 0)), (3, .int a2), (4, .int a3), (5, .int a4)] [] m9 := by
                        intro m9 hf
                        unfold f_X8_copy_K113_147 at hf
                        refine g_iconst Γ (pc := 147) (v := 0) dX8_copy_147 rfl ?_
                        refine g_istore Γ (pc := 148) (lv' := [(6, .int 0), (0, .ref (sq Y 0)), (3, .int a2), (4, .int a3), (5, .int a4)]) dX8_copy_148 (by decide) rfl ?_
                        have K_150_185 : ∀ (m10 : Mem), f_X8_copy_K150_185 a4 m10 = some (x, m) → G 185 [(5, .int a4)] [] m10 := by
                          intro m10 hf
                          unfold f_X8_copy_K150_185 at hf
                          refine g_iload Γ (pc := 185) 0 dX8_copy_185 rfl ?_
                          exact rI ret dX8_copy_187 hf
                        refine g_sub Γ [1, 2, 3, 4, 0] rfl ?_
                        refine lpF_s (P := fun (v : Int32 × Mem) => G 150 [(0, .ref (sq Y 0)), (3, .int a2), (4, .int a3), (5, .int a4), (6, .int v.1)] [] v.2) hf (fun v z1 hf kI1 kX1 => ?_)
                        obtain ⟨x6_11, m12⟩ := v
                        replace hf : f_X8_copy_L150 a2 a3 a4 x6_11 m12 = some z1 := hf
                        show G 150 [(0, .ref (sq Y 0)), (3, .int a2), (4, .int a3), (5, .int a4), (6, .int x6_11)] [] m12
                        unfold f_X8_copy_L150 at hf
                        refine g_iload Γ (pc := 150) 4 dX8_copy_150 rfl ?_
                        refine g_iload Γ (pc := 152) 3 dX8_copy_152 rfl ?_
                        refine g_icmp_ge Γ (pc := 154) (tgt := 185) dX8_copy_154 rfl hf (fun hf => ?_) (fun hf => ?_)
                        · refine g_sub Γ [3] rfl ?_
                          exact K_150_185 m12 (kX1 m12 (Option.some.inj hf).symm)
                        · refine g_aload_n Γ (pc := 157) 0 dX8_copy_157 rfl rfl ?_
                          refine g_get Γ (pc := 158) (v := .ref (sq Y 6)) dX8_copy_158 (M_obj hM) fr_X8_25 rfl ?_
                          refine g_bipush Γ (pc := 161) (v := 24) dX8_copy_161 rfl ?_
                          refine g_iload_n Γ (pc := 163) 1 dX8_copy_163 rfl rfl ?_
                          refine g_imul Γ (pc := 164) dX8_copy_164 ?_
                          refine g_iload Γ (pc := 165) 2 dX8_copy_165 rfl ?_
                          refine g_iadd Γ (pc := 167) dX8_copy_167 ?_
                          refine g_iload Γ (pc := 168) 4 dX8_copy_168 rfl ?_
                          refine g_iadd Γ (pc := 170) dX8_copy_170 ?_
                          refine g_aload_n Γ (pc := 171) 0 dX8_copy_171 rfl rfl ?_
                          refine g_get Γ (pc := 172) (v := .ref (sq Y 16)) dX8_copy_172 (M_obj hM) fr_X8_55 rfl ?_
                          refine g_iload Γ (pc := 175) 4 dX8_copy_175 rfl ?_
                          refine g_iald Γ (pc := 177) dX8_copy_177 (M_16 hM) hf (fun v13 hf => ?_)
                          refine g_iast Γ (pc := 178) dX8_copy_178 (M_6 hM) hf (fun m14 hf => ?_)
                          refine g_iinc Γ (pc := 179) (v := x6_11 + 1) (lv' := [(6, .int (x6_11 + 1)), (0, .ref (sq Y 0)), (3, .int a2), (4, .int a3), (5, .int a4)]) 4 dX8_copy_179 rfl rfl (by decide) rfl ?_
                          refine g_goto Γ (pc := 182) (tgt := 150) dX8_copy_182 rfl ?_
                          refine g_sub Γ [1, 2, 3, 4, 0] rfl ?_
                          exact kI1 (x6_11 + 1, m14) (Option.some.inj hf).symm
                      refine g_sub Γ [1, 2, 3, 4, 5, 6, 0] rfl ?_
                      refine lpF_s (P := fun (v : Int32 × Mem) => G 113 [(0, .ref (sq Y 0)), (1, .int a0), (2, .int a1), (3, .int a2), (4, .int a3), (5, .int a4), (6, .int v.1)] [] v.2) hf (fun v z1 hf kI1 kX1 => ?_)
                      obtain ⟨x6_15, m16⟩ := v
                      replace hf : f_X8_copy_L113 a0 a1 a4 x6_15 m16 = some z1 := hf
                      show G 113 [(0, .ref (sq Y 0)), (1, .int a0), (2, .int a1), (3, .int a2), (4, .int a3), (5, .int a4), (6, .int x6_15)] [] m16
                      unfold f_X8_copy_L113 at hf
                      refine g_iload Γ (pc := 113) 6 dX8_copy_113 rfl ?_
                      refine g_iload Γ (pc := 115) 5 dX8_copy_115 rfl ?_
                      refine g_icmp_ge Γ (pc := 117) (tgt := 147) dX8_copy_117 rfl hf (fun hf => ?_) (fun hf => ?_)
                      · refine g_sub Γ [0, 3, 4, 5] rfl ?_
                        exact K_113_147 m16 (kX1 m16 (Option.some.inj hf).symm)
                      · refine g_aload_n Γ (pc := 120) 0 dX8_copy_120 rfl rfl ?_
                        refine g_get Γ (pc := 121) (v := .ref (sq Y 16)) dX8_copy_121 (M_obj hM) fr_X8_55 rfl ?_
                        refine g_iload Γ (pc := 124) 6 dX8_copy_124 rfl ?_
                        refine g_aload_n Γ (pc := 126) 0 dX8_copy_126 rfl rfl ?_
                        refine g_get Γ (pc := 127) (v := .ref (sq Y 6)) dX8_copy_127 (M_obj hM) fr_X8_25 rfl ?_
                        refine g_bipush Γ (pc := 130) (v := 24) dX8_copy_130 rfl ?_
                        refine g_iload_n Γ (pc := 132) 1 dX8_copy_132 rfl rfl ?_
                        refine g_imul Γ (pc := 133) dX8_copy_133 ?_
                        refine g_iload_n Γ (pc := 134) 2 dX8_copy_134 rfl rfl ?_
                        refine g_iadd Γ (pc := 135) dX8_copy_135 ?_
                        refine g_iload Γ (pc := 136) 6 dX8_copy_136 rfl ?_
                        refine g_iadd Γ (pc := 138) dX8_copy_138 ?_
                        refine g_iald Γ (pc := 139) dX8_copy_139 (M_6 hM) hf (fun v17 hf => ?_)
                        refine g_iast Γ (pc := 140) dX8_copy_140 (M_16 hM) hf (fun m18 hf => ?_)
                        refine g_iinc Γ (pc := 141) (v := x6_15 + 1) (lv' := [(6, .int (x6_15 + 1)), (0, .ref (sq Y 0)), (1, .int a0), (2, .int a1), (3, .int a2), (4, .int a3), (5, .int a4)]) 6 dX8_copy_141 rfl rfl (by decide) rfl ?_
                        refine g_goto Γ (pc := 144) (tgt := 113) dX8_copy_144 rfl ?_
                        refine g_sub Γ [1, 2, 3, 4, 5, 6, 0] rfl ?_
                        exact kI1 (x6_15 + 1, m18) (Option.some.inj hf).symm
                    · refine g_ldcw Γ (pc := 106) dX8_copy_106 kK_X8_321 ?_
                      exact rI ret dX8_copy_109 hf
          · refine g_ldc Γ (pc := 54) dX8_copy_54 kK_X8_131 ?_
            exact rI ret dX8_copy_56 hf
        · refine g_ldcw Γ (pc := 35) dX8_copy_35 kK_X8_320 ?_
          exact rI ret dX8_copy_38 hf
    · refine g_ldc Γ (pc := 14) dX8_copy_14 kK_X8_78 ?_
      exact rI ret dX8_copy_16 hf
def f_X8_isSlot (a0 : Int32) : Option (Int32) :=
  bn1 (f_X8_isIn a0.toInt64 0 4) fun v1 =>
  zM v1
set_option maxRecDepth 100000 in
set_option maxHeartbeats 4000000 in
theorem c_X8_isSlot {Y : SYS} {a0 : Int32} {μ : Mem} {x : Int32} (hf : f_X8_isSlot a0 = some x) : KC Y yX8_isSlot cX8_isSlot 1 (some .boolean) 1 [.int a0] μ (some (.int x)) μ := by
  refine KC.Z RX8 [(0, .int a0)] (by decide) rfl (Nat.le_of_ble_eq_true rfl) rfl (fun G Γ ret => ?_)
  unfold f_X8_isSlot at hf
  refine g_iload_n Γ (pc := 0) 0 dX8_isSlot_0 rfl rfl ?_
  refine g_i2l Γ (pc := 1) dX8_isSlot_1 ?_
  refine g_lconst Γ (pc := 2) (v := 0) dX8_isSlot_2 rfl ?_
  refine g_ldc2 Γ (pc := 3) dX8_isSlot_3 kL_X8_329 ?_
  obtain ⟨v1, h1, hf⟩ := bn1_i hf
  refine g_callSI Γ (pc := 6) (as := [.long a0.toInt64, .long 0, .long 4]) (st := []) dX8_isSlot_6 (c_X8_isIn h1) mi_X8_isIn ms_X8_isIn kM_X8_65 rfl ⟨Nat.le_of_ble_eq_true rfl, Nat.le_of_ble_eq_true rfl⟩ rfl (Nat.le_of_ble_eq_true rfl) ?_
  exact rZr ret dX8_isSlot_9 hf
def f_X8_lay_K150_187 (v3 : Int32) (m11 : Mem) : Option (Int32 × Mem) :=
  some (v3, m11)
def f_X8_lay_L150 (a0 : Int32) (a2 : Int32) (x6_12 : Int32) (m13 : Mem) : Option ((Int32 × Mem) ⊕ Mem) :=
  if 24 ≤ x6_12 then
    some (.inr m13)
  else
    bn1 (ldM (m13 6) 96 ((24 * a2) + x6_12)) fun v14 =>
    bn1 (stM m13 11 120 ((24 * a0) + x6_12) v14) fun m15 =>
    some (.inl (x6_12 + 1, m15))
def f_X8_lay_J129 (a0 : Int32) (a1 : Int32) (a2 : Int32) (v3 : Int32) (m6 : Mem) (s7 : Int32) : Option (Int32 × Mem) :=
  bn1 (stM m6 9 5 a0 s7) fun m8 =>
  if a1 = 2 then
    bn1 (ldM (m8 5) 4 a2) fun v9 =>
    bn1 (stM m8 10 5 a0 v9) fun m10 =>
    bn1 (lpF (fun v => f_X8_lay_L150 a0 a2 v.1 v.2) 4000 (0, m10)) (fun x => f_X8_lay_K150_187 v3 x)
  else
    some (v3, m8)
def f_X8_lay_J109 (a0 : Int32) (a1 : Int32) (a2 : Int32) (v3 : Int32) (m4 : Mem) (s5 : Int32) : Option (Int32 × Mem) :=
  bn1 (stM m4 8 5 a0 s5) fun m6 =>
  if a1 = 1 then
    bn1 (f_X8_worth a2 m6) fun v16 =>
    f_X8_lay_J129 a0 a1 a2 v3 m6 v16
  else
    f_X8_lay_J129 a0 a1 a2 v3 m6 0
def f_X8_lay_J74 (a0 : Int32) (a1 : Int32) (a2 : Int32) (μ : Mem) : Option (Int32 × Mem) :=
  bn1 (ldM (μ 7) 5 a0) fun v3 =>
  bn1 (stM μ 7 5 a0 a1) fun m4 =>
  if a1 = 1 then
    bn1 (f_X8_of a2 0 m4) fun v17 =>
    f_X8_lay_J109 a0 a1 a2 v3 m4 v17
  else
    f_X8_lay_J109 a0 a1 a2 v3 m4 a2
def f_X8_lay_J39 (a0 : Int32) (a1 : Int32) (a2 : Int32) (μ : Mem) (s1 : Int32) : Option (Int32 × Mem) :=
  bn1 (f_X8_isSlot a0) fun v2 =>
  if v2 = 0 then
    some ((-1000000001), μ)
  else
    if s1 = 0 then
      some ((-1000000001), μ)
    else
      if a1 = 2 then
        bn1 (ldM (μ 4) 4 a2) fun v18 =>
        if 0 ≤ v18 then
          f_X8_lay_J74 a0 a1 a2 μ
        else
          some ((-1000000011), μ)
      else
        f_X8_lay_J74 a0 a1 a2 μ
def f_X8_lay_J34 (a0 : Int32) (a1 : Int32) (a2 : Int32) (μ : Mem) : Option (Int32 × Mem) :=
  f_X8_lay_J39 a0 a1 a2 μ 1
def f_X8_lay_J38 (a0 : Int32) (a1 : Int32) (a2 : Int32) (μ : Mem) : Option (Int32 × Mem) :=
  f_X8_lay_J39 a0 a1 a2 μ 0
def f_X8_lay_J22 (a0 : Int32) (a1 : Int32) (a2 : Int32) (μ : Mem) : Option (Int32 × Mem) :=
  if a1 = 2 then
    bn1 (f_X8_isSheet a2) fun v19 =>
    if v19 = 0 then
      f_X8_lay_J38 a0 a1 a2 μ
    else
      f_X8_lay_J34 a0 a1 a2 μ
  else
    f_X8_lay_J38 a0 a1 a2 μ
def f_X8_lay (a0 : Int32) (a1 : Int32) (a2 : Int32) (μ : Mem) : Option (Int32 × Mem) :=
  if a1 = 0 then
    f_X8_lay_J34 a0 a1 a2 μ
  else
    if a1 = 3 then
      f_X8_lay_J34 a0 a1 a2 μ
    else
      if a1 = 1 then
        bn1 (f_X8_isOne a2 μ) fun v20 =>
        if v20 = 0 then
          f_X8_lay_J22 a0 a1 a2 μ
        else
          f_X8_lay_J34 a0 a1 a2 μ
      else
        f_X8_lay_J22 a0 a1 a2 μ
set_option maxRecDepth 100000 in
set_option maxHeartbeats 4000000 in
theorem c_X8_lay {Y : SYS} (hM : IsM Y) {a0 : Int32} {a1 : Int32} {a2 : Int32} {μ : Mem} {x : Int32} {m : Mem} (hf : f_X8_lay a0 a1 a2 μ = some (x, m)) : KC Y yX8_lay cX8_lay 7 (some .int) 2 [.ref (sq Y 0), .int a0, .int a1, .int a2] μ (some (.int x)) m := by
  refine KC.I RX8 [(0, .ref (sq Y 0)), (1, .int a0), (2, .int a1), (3, .int a2)] (by decide) rfl (Nat.le_of_ble_eq_true rfl) rfl (fun G Γ ret => ?_)
  unfold f_X8_lay at hf
  refine g_iload_n Γ (pc := 0) 2 dX8_lay_0 rfl rfl ?_
  have J_39 : ∀ (s1 : Int32), f_X8_lay_J39 a0 a1 a2 μ s1 = some (x, m) → G 39 [(0, .ref (sq Y 0)), (1, .int a0), (2, .int a1), (3, .int a2)] [.int s1] μ := by
    intro s1 hf
    unfold f_X8_lay_J39 at hf
    refine g_istore Γ (pc := 39) (lv' := [(4, .int s1), (0, .ref (sq Y 0)), (1, .int a0), (2, .int a1), (3, .int a2)]) dX8_lay_39 (by decide) rfl ?_
    refine g_iload_n Γ (pc := 41) 2 dX8_lay_41 rfl rfl ?_
    obtain ⟨v2, h1, hf⟩ := bn1_i hf
    refine g_callSI Γ (pc := 42) (as := [.int a0]) (st := []) dX8_lay_42 (c_X8_isSlot h1) mi_X8_isSlot ms_X8_isSlot kM_X8_331 rfl ⟨Nat.le_of_ble_eq_true rfl, Nat.le_of_ble_eq_true rfl⟩ rfl (Nat.le_of_ble_eq_true rfl) ?_
    refine g_if_eq Γ (pc := 45) (tgt := 53) dX8_lay_45 rfl hf (fun hf => ?_) (fun hf => ?_)
    · refine g_ldc Γ (pc := 53) dX8_lay_53 kK_X8_78 ?_
      exact rI ret dX8_lay_55 hf
    · refine g_iload Γ (pc := 48) 0 dX8_lay_48 rfl ?_
      refine g_if_ne Γ (pc := 50) (tgt := 56) dX8_lay_50 rfl hf (fun hf => ?_) (fun hf => ?_)
      · refine g_iload_n Γ (pc := 56) 3 dX8_lay_56 rfl rfl ?_
        refine g_iconst Γ (pc := 57) (v := 2) dX8_lay_57 rfl ?_
        have J_74 : f_X8_lay_J74 a0 a1 a2 μ = some (x, m) → G 74 [(0, .ref (sq Y 0)), (1, .int a0), (2, .int a1), (3, .int a2)] [] μ := by
          intro hf
          unfold f_X8_lay_J74 at hf
          refine g_aload_n Γ (pc := 74) 0 dX8_lay_74 rfl rfl ?_
          refine g_get Γ (pc := 75) (v := .ref (sq Y 7)) dX8_lay_75 (M_obj hM) fr_X8_28 rfl ?_
          refine g_iload_n Γ (pc := 78) 1 dX8_lay_78 rfl rfl ?_
          refine g_iald Γ (pc := 79) dX8_lay_79 (M_7 hM) hf (fun v3 hf => ?_)
          refine g_istore Γ (pc := 80) (lv' := [(5, .int v3), (0, .ref (sq Y 0)), (1, .int a0), (2, .int a1), (3, .int a2)]) dX8_lay_80 (by decide) rfl ?_
          refine g_aload_n Γ (pc := 82) 1 dX8_lay_82 rfl rfl ?_
          refine g_get Γ (pc := 83) (v := .ref (sq Y 7)) dX8_lay_83 (M_obj hM) fr_X8_28 rfl ?_
          refine g_iload_n Γ (pc := 86) 2 dX8_lay_86 rfl rfl ?_
          refine g_iload_n Γ (pc := 87) 3 dX8_lay_87 rfl rfl ?_
          refine g_iast Γ (pc := 88) dX8_lay_88 (M_7 hM) hf (fun m4 hf => ?_)
          refine g_aload_n Γ (pc := 89) 1 dX8_lay_89 rfl rfl ?_
          refine g_get Γ (pc := 90) (v := .ref (sq Y 8)) dX8_lay_90 (M_obj hM) fr_X8_31 rfl ?_
          refine g_iload_n Γ (pc := 93) 2 dX8_lay_93 rfl rfl ?_
          refine g_iload_n Γ (pc := 94) 3 dX8_lay_94 rfl rfl ?_
          refine g_iconst Γ (pc := 95) (v := 1) dX8_lay_95 rfl ?_
          have J_109 : ∀ (s5 : Int32), f_X8_lay_J109 a0 a1 a2 v3 m4 s5 = some (x, m) → G 109 [(0, .ref (sq Y 0)), (1, .int a0), (2, .int a1), (3, .int a2), (5, .int v3)] [.int s5, .int a0, .ref (sq Y 8)] m4 := by
            intro s5 hf
            unfold f_X8_lay_J109 at hf
            refine g_iast Γ (pc := 109) dX8_lay_109 (M_8 hM) hf (fun m6 hf => ?_)
            refine g_aload_n Γ (pc := 110) 0 dX8_lay_110 rfl rfl ?_
            refine g_get Γ (pc := 111) (v := .ref (sq Y 9)) dX8_lay_111 (M_obj hM) fr_X8_34 rfl ?_
            refine g_iload_n Γ (pc := 114) 1 dX8_lay_114 rfl rfl ?_
            refine g_iload_n Γ (pc := 115) 2 dX8_lay_115 rfl rfl ?_
            refine g_iconst Γ (pc := 116) (v := 1) dX8_lay_116 rfl ?_
            have J_129 : ∀ (s7 : Int32), f_X8_lay_J129 a0 a1 a2 v3 m6 s7 = some (x, m) → G 129 [(0, .ref (sq Y 0)), (1, .int a0), (2, .int a1), (3, .int a2), (5, .int v3)] [.int s7, .int a0, .ref (sq Y 9)] m6 := by
              intro s7 hf
              unfold f_X8_lay_J129 at hf
              refine g_iast Γ (pc := 129) dX8_lay_129 (M_9 hM) hf (fun m8 hf => ?_)
              refine g_iload_n Γ (pc := 130) 2 dX8_lay_130 rfl rfl ?_
              refine g_iconst Γ (pc := 131) (v := 2) dX8_lay_131 rfl ?_
              refine g_icmp_ne Γ (pc := 132) (tgt := 187) dX8_lay_132 rfl hf (fun hf => ?_) (fun hf => ?_)
              · refine g_iload Γ (pc := 187) 4 dX8_lay_187 rfl ?_
                exact rI ret dX8_lay_189 hf
              · refine g_aload_n Γ (pc := 135) 0 dX8_lay_135 rfl rfl ?_
                refine g_get Γ (pc := 136) (v := .ref (sq Y 10)) dX8_lay_136 (M_obj hM) fr_X8_37 rfl ?_
                refine g_iload_n Γ (pc := 139) 1 dX8_lay_139 rfl rfl ?_
                refine g_aload_n Γ (pc := 140) 0 dX8_lay_140 rfl rfl ?_
                refine g_get Γ (pc := 141) (v := .ref (sq Y 5)) dX8_lay_141 (M_obj hM) fr_X8_22 rfl ?_
                refine g_iload_n Γ (pc := 144) 3 dX8_lay_144 rfl rfl ?_
                refine g_iald Γ (pc := 145) dX8_lay_145 (M_5 hM) hf (fun v9 hf => ?_)
                refine g_iast Γ (pc := 146) dX8_lay_146 (M_10 hM) hf (fun m10 hf => ?_)
                refine g_iconst Γ (pc := 147) (v := 0) dX8_lay_147 rfl ?_
                refine g_istore Γ (pc := 148) (lv' := [(6, .int 0), (0, .ref (sq Y 0)), (1, .int a0), (2, .int a1), (3, .int a2), (5, .int v3)]) dX8_lay_148 (by decide) rfl ?_
                have K_150_187 : ∀ (m11 : Mem), f_X8_lay_K150_187 v3 m11 = some (x, m) → G 187 [(5, .int v3)] [] m11 := by
                  intro m11 hf
                  unfold f_X8_lay_K150_187 at hf
                  refine g_iload Γ (pc := 187) 0 dX8_lay_187 rfl ?_
                  exact rI ret dX8_lay_189 hf
                refine g_sub Γ [1, 2, 4, 5, 0] rfl ?_
                refine lpF_s (P := fun (v : Int32 × Mem) => G 150 [(0, .ref (sq Y 0)), (1, .int a0), (3, .int a2), (5, .int v3), (6, .int v.1)] [] v.2) hf (fun v z1 hf kI1 kX1 => ?_)
                obtain ⟨x6_12, m13⟩ := v
                replace hf : f_X8_lay_L150 a0 a2 x6_12 m13 = some z1 := hf
                show G 150 [(0, .ref (sq Y 0)), (1, .int a0), (3, .int a2), (5, .int v3), (6, .int x6_12)] [] m13
                unfold f_X8_lay_L150 at hf
                refine g_iload Γ (pc := 150) 4 dX8_lay_150 rfl ?_
                refine g_bipush Γ (pc := 152) (v := 24) dX8_lay_152 rfl ?_
                refine g_icmp_ge Γ (pc := 154) (tgt := 187) dX8_lay_154 rfl hf (fun hf => ?_) (fun hf => ?_)
                · refine g_sub Γ [3] rfl ?_
                  exact K_150_187 m13 (kX1 m13 (Option.some.inj hf).symm)
                · refine g_aload_n Γ (pc := 157) 0 dX8_lay_157 rfl rfl ?_
                  refine g_get Γ (pc := 158) (v := .ref (sq Y 11)) dX8_lay_158 (M_obj hM) fr_X8_40 rfl ?_
                  refine g_bipush Γ (pc := 161) (v := 24) dX8_lay_161 rfl ?_
                  refine g_iload_n Γ (pc := 163) 1 dX8_lay_163 rfl rfl ?_
                  refine g_imul Γ (pc := 164) dX8_lay_164 ?_
                  refine g_iload Γ (pc := 165) 4 dX8_lay_165 rfl ?_
                  refine g_iadd Γ (pc := 167) dX8_lay_167 ?_
                  refine g_aload_n Γ (pc := 168) 0 dX8_lay_168 rfl rfl ?_
                  refine g_get Γ (pc := 169) (v := .ref (sq Y 6)) dX8_lay_169 (M_obj hM) fr_X8_25 rfl ?_
                  refine g_bipush Γ (pc := 172) (v := 24) dX8_lay_172 rfl ?_
                  refine g_iload_n Γ (pc := 174) 2 dX8_lay_174 rfl rfl ?_
                  refine g_imul Γ (pc := 175) dX8_lay_175 ?_
                  refine g_iload Γ (pc := 176) 4 dX8_lay_176 rfl ?_
                  refine g_iadd Γ (pc := 178) dX8_lay_178 ?_
                  refine g_iald Γ (pc := 179) dX8_lay_179 (M_6 hM) hf (fun v14 hf => ?_)
                  refine g_iast Γ (pc := 180) dX8_lay_180 (M_11 hM) hf (fun m15 hf => ?_)
                  refine g_iinc Γ (pc := 181) (v := x6_12 + 1) (lv' := [(6, .int (x6_12 + 1)), (0, .ref (sq Y 0)), (1, .int a0), (3, .int a2), (5, .int v3)]) 4 dX8_lay_181 rfl rfl (by decide) rfl ?_
                  refine g_goto Γ (pc := 184) (tgt := 150) dX8_lay_184 rfl ?_
                  refine g_sub Γ [1, 2, 3, 4, 0] rfl ?_
                  exact kI1 (x6_12 + 1, m15) (Option.some.inj hf).symm
            refine g_icmp_ne Γ (pc := 117) (tgt := 128) dX8_lay_117 rfl hf (fun hf => ?_) (fun hf => ?_)
            · refine g_iconst Γ (pc := 128) (v := 0) dX8_lay_128 rfl ?_
              refine g_sub Γ [0, 1, 2, 3, 4] rfl ?_
              exact J_129 0 hf
            · refine g_aload_n Γ (pc := 120) 0 dX8_lay_120 rfl rfl ?_
              refine g_iload_n Γ (pc := 121) 3 dX8_lay_121 rfl rfl ?_
              obtain ⟨v16, h1, hf⟩ := bn1_i hf
              refine g_callVI Γ (pc := 122) (as := [.int a2]) (st := [.int a0, .ref (sq Y 9)]) dX8_lay_122 (c_X8_worth hM h1) (M_obj hM) rfl mi_X8_worth mv_X8_worth kM_X8_124 rfl ⟨Nat.le_of_ble_eq_true rfl, Nat.le_of_ble_eq_true rfl⟩ rfl (Nat.le_of_ble_eq_true rfl) ?_
              refine g_goto Γ (pc := 125) (tgt := 129) dX8_lay_125 rfl ?_
              refine g_sub Γ [0, 1, 2, 3, 4] rfl ?_
              exact J_129 v16 hf
          refine g_icmp_ne Γ (pc := 96) (tgt := 108) dX8_lay_96 rfl hf (fun hf => ?_) (fun hf => ?_)
          · refine g_iload_n Γ (pc := 108) 4 dX8_lay_108 rfl rfl ?_
            refine g_sub Γ [1, 2, 3, 4, 0] rfl ?_
            exact J_109 a2 hf
          · refine g_aload_n Γ (pc := 99) 1 dX8_lay_99 rfl rfl ?_
            refine g_iload_n Γ (pc := 100) 4 dX8_lay_100 rfl rfl ?_
            refine g_iconst Γ (pc := 101) (v := 0) dX8_lay_101 rfl ?_
            obtain ⟨v17, h1, hf⟩ := bn1_i hf
            refine g_callVI Γ (pc := 102) (as := [.int a2, .int 0]) (st := [.int a0, .ref (sq Y 8)]) dX8_lay_102 (c_X8_of hM h1) (M_obj hM) rfl mi_X8_of mv_X8_of kM_X8_83 rfl ⟨Nat.le_of_ble_eq_true rfl, Nat.le_of_ble_eq_true rfl⟩ rfl (Nat.le_of_ble_eq_true rfl) ?_
            refine g_goto Γ (pc := 105) (tgt := 109) dX8_lay_105 rfl ?_
            refine g_sub Γ [1, 2, 3, 4, 0] rfl ?_
            exact J_109 v17 hf
        refine g_icmp_ne Γ (pc := 58) (tgt := 74) dX8_lay_58 rfl hf (fun hf => ?_) (fun hf => ?_)
        · refine g_sub Γ [1, 2, 3, 4] rfl ?_
          exact J_74 hf
        · refine g_aload_n Γ (pc := 61) 1 dX8_lay_61 rfl rfl ?_
          refine g_get Γ (pc := 62) (v := .ref (sq Y 4)) dX8_lay_62 (M_obj hM) fr_X8_19 rfl ?_
          refine g_iload_n Γ (pc := 65) 4 dX8_lay_65 rfl rfl ?_
          refine g_iald Γ (pc := 66) dX8_lay_66 (M_4 hM) hf (fun v18 hf => ?_)
          refine g_if_ge Γ (pc := 67) (tgt := 74) dX8_lay_67 rfl hf (fun hf => ?_) (fun hf => ?_)
          · refine g_sub Γ [1, 2, 3, 4] rfl ?_
            exact J_74 hf
          · refine g_ldcw Γ (pc := 70) dX8_lay_70 kK_X8_320 ?_
            exact rI ret dX8_lay_73 hf
      · refine g_ldc Γ (pc := 53) dX8_lay_53 kK_X8_78 ?_
        exact rI ret dX8_lay_55 hf
  have J_34 : f_X8_lay_J34 a0 a1 a2 μ = some (x, m) → G 34 [(0, .ref (sq Y 0)), (1, .int a0), (2, .int a1), (3, .int a2)] [] μ := by
    intro hf
    unfold f_X8_lay_J34 at hf
    refine g_iconst Γ (pc := 34) (v := 1) dX8_lay_34 rfl ?_
    refine g_goto Γ (pc := 35) (tgt := 39) dX8_lay_35 rfl ?_
    refine g_sub Γ [0, 1, 2, 3] rfl ?_
    exact J_39 1 hf
  refine g_if_eq Γ (pc := 1) (tgt := 34) dX8_lay_1 rfl hf (fun hf => ?_) (fun hf => ?_)
  · refine g_sub Γ [0, 1, 2, 3] rfl ?_
    exact J_34 hf
  · refine g_iload_n Γ (pc := 4) 2 dX8_lay_4 rfl rfl ?_
    refine g_iconst Γ (pc := 5) (v := 3) dX8_lay_5 rfl ?_
    refine g_icmp_eq Γ (pc := 6) (tgt := 34) dX8_lay_6 rfl hf (fun hf => ?_) (fun hf => ?_)
    · refine g_sub Γ [0, 1, 2, 3] rfl ?_
      exact J_34 hf
    · refine g_iload_n Γ (pc := 9) 2 dX8_lay_9 rfl rfl ?_
      refine g_iconst Γ (pc := 10) (v := 1) dX8_lay_10 rfl ?_
      have J_22 : f_X8_lay_J22 a0 a1 a2 μ = some (x, m) → G 22 [(0, .ref (sq Y 0)), (1, .int a0), (2, .int a1), (3, .int a2)] [] μ := by
        intro hf
        unfold f_X8_lay_J22 at hf
        refine g_iload_n Γ (pc := 22) 2 dX8_lay_22 rfl rfl ?_
        refine g_iconst Γ (pc := 23) (v := 2) dX8_lay_23 rfl ?_
        have J_38 : f_X8_lay_J38 a0 a1 a2 μ = some (x, m) → G 38 [(0, .ref (sq Y 0)), (1, .int a0), (2, .int a1), (3, .int a2)] [] μ := by
          intro hf
          unfold f_X8_lay_J38 at hf
          refine g_iconst Γ (pc := 38) (v := 0) dX8_lay_38 rfl ?_
          refine g_sub Γ [0, 1, 2, 3] rfl ?_
          exact J_39 0 hf
        refine g_icmp_ne Γ (pc := 24) (tgt := 38) dX8_lay_24 rfl hf (fun hf => ?_) (fun hf => ?_)
        · refine g_sub Γ [0, 1, 2, 3] rfl ?_
          exact J_38 hf
        · refine g_iload_n Γ (pc := 27) 3 dX8_lay_27 rfl rfl ?_
          obtain ⟨v19, h1, hf⟩ := bn1_i hf
          refine g_callSI Γ (pc := 28) (as := [.int a2]) (st := []) dX8_lay_28 (c_X8_isSheet h1) mi_X8_isSheet ms_X8_isSheet kM_X8_314 rfl ⟨Nat.le_of_ble_eq_true rfl, Nat.le_of_ble_eq_true rfl⟩ rfl (Nat.le_of_ble_eq_true rfl) ?_
          refine g_if_eq Γ (pc := 31) (tgt := 38) dX8_lay_31 rfl hf (fun hf => ?_) (fun hf => ?_)
          · refine g_sub Γ [0, 1, 2, 3] rfl ?_
            exact J_38 hf
          · refine g_sub Γ [0, 1, 2, 3] rfl ?_
            exact J_34 hf
      refine g_icmp_ne Γ (pc := 11) (tgt := 22) dX8_lay_11 rfl hf (fun hf => ?_) (fun hf => ?_)
      · refine g_sub Γ [0, 1, 2, 3] rfl ?_
        exact J_22 hf
      · refine g_aload_n Γ (pc := 14) 0 dX8_lay_14 rfl rfl ?_
        refine g_iload_n Γ (pc := 15) 3 dX8_lay_15 rfl rfl ?_
        obtain ⟨v20, h1, hf⟩ := bn1_i hf
        refine g_callVI Γ (pc := 16) (as := [.int a2]) (st := []) dX8_lay_16 (c_X8_isOne hM h1) (M_obj hM) rfl mi_X8_isOne mv_X8_isOne kM_X8_114 rfl ⟨Nat.le_of_ble_eq_true rfl, Nat.le_of_ble_eq_true rfl⟩ rfl (Nat.le_of_ble_eq_true rfl) ?_
        refine g_if_ne Γ (pc := 19) (tgt := 34) dX8_lay_19 rfl hf (fun hf => ?_) (fun hf => ?_)
        · refine g_sub Γ [0, 1, 2, 3] rfl ?_
          exact J_34 hf
        · refine g_sub Γ [0, 1, 2, 3] rfl ?_
          exact J_22 hf
def f_X8_ask (a0 : Int32) (a1 : Int32) (μ : Mem) : Option (Int32) :=
  bn1 (f_X8_isSlot a0) fun v1 =>
  if v1 = 0 then
    some (-1000000001)
  else
    bn1 (f_X8_isIn a1.toInt64 0 5) fun v2 =>
    if v2 = 0 then
      some (-1000000001)
    else
      bn1 (ldM (μ 7) 5 a0) fun v3 =>
      if v3 = 0 then
        some (-1000000011)
      else
        bn1 (ldM (μ 7) 5 a0) fun v4 =>
        if v4 = 1 then
          bn1 (ldM (μ 8) 5 a0) fun v5 =>
          bn1 (f_X8_isOf v5 a1) fun v6 =>
          if v6 = 0 then
            some (-1000000012)
          else
            bn1 (ldM (μ 9) 5 a0) fun v7 =>
            some v7
        else
          some (-1000000012)
set_option maxRecDepth 100000 in
set_option maxHeartbeats 4000000 in
theorem c_X8_ask {Y : SYS} (hM : IsM Y) {a0 : Int32} {a1 : Int32} {μ : Mem} {x : Int32} (hf : f_X8_ask a0 a1 μ = some x) : KC Y yX8_ask cX8_ask 3 (some .int) 2 [.ref (sq Y 0), .int a0, .int a1] μ (some (.int x)) μ := by
  refine KC.I RX8 [(0, .ref (sq Y 0)), (1, .int a0), (2, .int a1)] (by decide) rfl (Nat.le_of_ble_eq_true rfl) rfl (fun G Γ ret => ?_)
  unfold f_X8_ask at hf
  refine g_iload_n Γ (pc := 0) 1 dX8_ask_0 rfl rfl ?_
  obtain ⟨v1, h1, hf⟩ := bn1_i hf
  refine g_callSI Γ (pc := 1) (as := [.int a0]) (st := []) dX8_ask_1 (c_X8_isSlot h1) mi_X8_isSlot ms_X8_isSlot kM_X8_331 rfl ⟨Nat.le_of_ble_eq_true rfl, Nat.le_of_ble_eq_true rfl⟩ rfl (Nat.le_of_ble_eq_true rfl) ?_
  refine g_if_eq Γ (pc := 4) (tgt := 19) dX8_ask_4 rfl hf (fun hf => ?_) (fun hf => ?_)
  · refine g_ldc Γ (pc := 19) dX8_ask_19 kK_X8_78 ?_
    exact rIr ret dX8_ask_21 hf
  · refine g_iload_n Γ (pc := 7) 2 dX8_ask_7 rfl rfl ?_
    refine g_i2l Γ (pc := 8) dX8_ask_8 ?_
    refine g_lconst Γ (pc := 9) (v := 0) dX8_ask_9 rfl ?_
    refine g_ldc2 Γ (pc := 10) dX8_ask_10 kL_X8_74 ?_
    obtain ⟨v2, h1, hf⟩ := bn1_i hf
    refine g_callSI Γ (pc := 13) (as := [.long a1.toInt64, .long 0, .long 5]) (st := []) dX8_ask_13 (c_X8_isIn h1) mi_X8_isIn ms_X8_isIn kM_X8_65 rfl ⟨Nat.le_of_ble_eq_true rfl, Nat.le_of_ble_eq_true rfl⟩ rfl (Nat.le_of_ble_eq_true rfl) ?_
    refine g_if_ne Γ (pc := 16) (tgt := 22) dX8_ask_16 rfl hf (fun hf => ?_) (fun hf => ?_)
    · refine g_aload_n Γ (pc := 22) 0 dX8_ask_22 rfl rfl ?_
      refine g_get Γ (pc := 23) (v := .ref (sq Y 7)) dX8_ask_23 (M_obj hM) fr_X8_28 rfl ?_
      refine g_iload_n Γ (pc := 26) 1 dX8_ask_26 rfl rfl ?_
      refine g_iald Γ (pc := 27) dX8_ask_27 (M_7 hM) hf (fun v3 hf => ?_)
      refine g_if_ne Γ (pc := 28) (tgt := 35) dX8_ask_28 rfl hf (fun hf => ?_) (fun hf => ?_)
      · refine g_aload_n Γ (pc := 35) 0 dX8_ask_35 rfl rfl ?_
        refine g_get Γ (pc := 36) (v := .ref (sq Y 7)) dX8_ask_36 (M_obj hM) fr_X8_28 rfl ?_
        refine g_iload_n Γ (pc := 39) 1 dX8_ask_39 rfl rfl ?_
        refine g_iald Γ (pc := 40) dX8_ask_40 (M_7 hM) hf (fun v4 hf => ?_)
        refine g_iconst Γ (pc := 41) (v := 1) dX8_ask_41 rfl ?_
        refine g_icmp_ne Γ (pc := 42) (tgt := 67) dX8_ask_42 rfl hf (fun hf => ?_) (fun hf => ?_)
        · refine g_ldc Γ (pc := 67) dX8_ask_67 kK_X8_131 ?_
          exact rIr ret dX8_ask_69 hf
        · refine g_aload_n Γ (pc := 45) 0 dX8_ask_45 rfl rfl ?_
          refine g_get Γ (pc := 46) (v := .ref (sq Y 8)) dX8_ask_46 (M_obj hM) fr_X8_31 rfl ?_
          refine g_iload_n Γ (pc := 49) 1 dX8_ask_49 rfl rfl ?_
          refine g_iald Γ (pc := 50) dX8_ask_50 (M_8 hM) hf (fun v5 hf => ?_)
          refine g_iload_n Γ (pc := 51) 2 dX8_ask_51 rfl rfl ?_
          obtain ⟨v6, h1, hf⟩ := bn1_i hf
          refine g_callSI Γ (pc := 52) (as := [.int v5, .int a1]) (st := []) dX8_ask_52 (c_X8_isOf h1) mi_X8_isOf ms_X8_isOf kM_X8_127 rfl ⟨Nat.le_of_ble_eq_true rfl, Nat.le_of_ble_eq_true rfl⟩ rfl (Nat.le_of_ble_eq_true rfl) ?_
          refine g_if_eq Γ (pc := 55) (tgt := 67) dX8_ask_55 rfl hf (fun hf => ?_) (fun hf => ?_)
          · refine g_ldc Γ (pc := 67) dX8_ask_67 kK_X8_131 ?_
            exact rIr ret dX8_ask_69 hf
          · refine g_aload_n Γ (pc := 58) 0 dX8_ask_58 rfl rfl ?_
            refine g_get Γ (pc := 59) (v := .ref (sq Y 9)) dX8_ask_59 (M_obj hM) fr_X8_34 rfl ?_
            refine g_iload_n Γ (pc := 62) 1 dX8_ask_62 rfl rfl ?_
            refine g_iald Γ (pc := 63) dX8_ask_63 (M_9 hM) hf (fun v7 hf => ?_)
            refine g_goto Γ (pc := 64) (tgt := 69) dX8_ask_64 rfl ?_
            exact rIr ret dX8_ask_69 hf
      · refine g_ldcw Γ (pc := 31) dX8_ask_31 kK_X8_320 ?_
        exact rIr ret dX8_ask_34 hf
    · refine g_ldc Γ (pc := 19) dX8_ask_19 kK_X8_78 ?_
      exact rIr ret dX8_ask_21 hf
def f_X8_item (a0 : Int32) (a1 : Int32) (μ : Mem) : Option (Int32) :=
  bn1 (f_X8_isSlot a0) fun v1 =>
  if v1 = 0 then
    some (-1000000001)
  else
    bn1 (ldM (μ 7) 5 a0) fun v2 =>
    if v2 = 2 then
      bn1 (ldM (μ 10) 5 a0) fun v3 =>
      bn1 (f_X8_isIn a1.toInt64 0 ((v3 - 1).toInt64)) fun v4 =>
      if v4 = 0 then
        some (-1000000013)
      else
        bn1 (ldM (μ 11) 120 ((24 * a0) + a1)) fun v5 =>
        if v5 = (-1000000005) then
          some (-1000000012)
        else
          some v5
    else
      bn1 (ldM (μ 7) 5 a0) fun v6 =>
      if v6 = 0 then
        some (-1000000011)
      else
        some (-1000000012)
set_option maxRecDepth 100000 in
set_option maxHeartbeats 4000000 in
theorem c_X8_item {Y : SYS} (hM : IsM Y) {a0 : Int32} {a1 : Int32} {μ : Mem} {x : Int32} (hf : f_X8_item a0 a1 μ = some x) : KC Y yX8_item cX8_item 4 (some .int) 2 [.ref (sq Y 0), .int a0, .int a1] μ (some (.int x)) μ := by
  refine KC.I RX8 [(0, .ref (sq Y 0)), (1, .int a0), (2, .int a1)] (by decide) rfl (Nat.le_of_ble_eq_true rfl) rfl (fun G Γ ret => ?_)
  unfold f_X8_item at hf
  refine g_iload_n Γ (pc := 0) 1 dX8_item_0 rfl rfl ?_
  obtain ⟨v1, h1, hf⟩ := bn1_i hf
  refine g_callSI Γ (pc := 1) (as := [.int a0]) (st := []) dX8_item_1 (c_X8_isSlot h1) mi_X8_isSlot ms_X8_isSlot kM_X8_331 rfl ⟨Nat.le_of_ble_eq_true rfl, Nat.le_of_ble_eq_true rfl⟩ rfl (Nat.le_of_ble_eq_true rfl) ?_
  refine g_if_ne Γ (pc := 4) (tgt := 10) dX8_item_4 rfl hf (fun hf => ?_) (fun hf => ?_)
  · refine g_aload_n Γ (pc := 10) 0 dX8_item_10 rfl rfl ?_
    refine g_get Γ (pc := 11) (v := .ref (sq Y 7)) dX8_item_11 (M_obj hM) fr_X8_28 rfl ?_
    refine g_iload_n Γ (pc := 14) 1 dX8_item_14 rfl rfl ?_
    refine g_iald Γ (pc := 15) dX8_item_15 (M_7 hM) hf (fun v2 hf => ?_)
    refine g_iconst Γ (pc := 16) (v := 2) dX8_item_16 rfl ?_
    refine g_icmp_eq Γ (pc := 17) (tgt := 38) dX8_item_17 rfl hf (fun hf => ?_) (fun hf => ?_)
    · refine g_iload_n Γ (pc := 38) 2 dX8_item_38 rfl rfl ?_
      refine g_i2l Γ (pc := 39) dX8_item_39 ?_
      refine g_lconst Γ (pc := 40) (v := 0) dX8_item_40 rfl ?_
      refine g_aload_n Γ (pc := 41) 0 dX8_item_41 rfl rfl ?_
      refine g_get Γ (pc := 42) (v := .ref (sq Y 10)) dX8_item_42 (M_obj hM) fr_X8_37 rfl ?_
      refine g_iload_n Γ (pc := 45) 1 dX8_item_45 rfl rfl ?_
      refine g_iald Γ (pc := 46) dX8_item_46 (M_10 hM) hf (fun v3 hf => ?_)
      refine g_iconst Γ (pc := 47) (v := 1) dX8_item_47 rfl ?_
      refine g_isub Γ (pc := 48) dX8_item_48 ?_
      refine g_i2l Γ (pc := 49) dX8_item_49 ?_
      obtain ⟨v4, h1, hf⟩ := bn1_i hf
      refine g_callSI Γ (pc := 50) (as := [.long a1.toInt64, .long 0, .long ((v3 - 1).toInt64)]) (st := []) dX8_item_50 (c_X8_isIn h1) mi_X8_isIn ms_X8_isIn kM_X8_65 rfl ⟨Nat.le_of_ble_eq_true rfl, Nat.le_of_ble_eq_true rfl⟩ rfl (Nat.le_of_ble_eq_true rfl) ?_
      refine g_if_ne Γ (pc := 53) (tgt := 60) dX8_item_53 rfl hf (fun hf => ?_) (fun hf => ?_)
      · refine g_aload_n Γ (pc := 60) 0 dX8_item_60 rfl rfl ?_
        refine g_get Γ (pc := 61) (v := .ref (sq Y 11)) dX8_item_61 (M_obj hM) fr_X8_40 rfl ?_
        refine g_bipush Γ (pc := 64) (v := 24) dX8_item_64 rfl ?_
        refine g_iload_n Γ (pc := 66) 1 dX8_item_66 rfl rfl ?_
        refine g_imul Γ (pc := 67) dX8_item_67 ?_
        refine g_iload_n Γ (pc := 68) 2 dX8_item_68 rfl rfl ?_
        refine g_iadd Γ (pc := 69) dX8_item_69 ?_
        refine g_iald Γ (pc := 70) dX8_item_70 (M_11 hM) hf (fun v5 hf => ?_)
        refine g_istore_n Γ (pc := 71) (lv' := [(3, .int v5), (0, .ref (sq Y 0)), (1, .int a0), (2, .int a1)]) dX8_item_71 rfl (by decide) rfl ?_
        refine g_iload_n Γ (pc := 72) 0 dX8_item_72 rfl rfl ?_
        refine g_ldc Γ (pc := 73) dX8_item_73 kK_X8_64 ?_
        refine g_icmp_ne Γ (pc := 75) (tgt := 83) dX8_item_75 rfl hf (fun hf => ?_) (fun hf => ?_)
        · refine g_iload_n Γ (pc := 83) 0 dX8_item_83 rfl rfl ?_
          exact rIr ret dX8_item_84 hf
        · refine g_ldc Γ (pc := 78) dX8_item_78 kK_X8_131 ?_
          refine g_goto Γ (pc := 80) (tgt := 84) dX8_item_80 rfl ?_
          exact rIr ret dX8_item_84 hf
      · refine g_ldcw Γ (pc := 56) dX8_item_56 kK_X8_321 ?_
        exact rIr ret dX8_item_59 hf
    · refine g_aload_n Γ (pc := 20) 0 dX8_item_20 rfl rfl ?_
      refine g_get Γ (pc := 21) (v := .ref (sq Y 7)) dX8_item_21 (M_obj hM) fr_X8_28 rfl ?_
      refine g_iload_n Γ (pc := 24) 1 dX8_item_24 rfl rfl ?_
      refine g_iald Γ (pc := 25) dX8_item_25 (M_7 hM) hf (fun v6 hf => ?_)
      refine g_if_ne Γ (pc := 26) (tgt := 35) dX8_item_26 rfl hf (fun hf => ?_) (fun hf => ?_)
      · refine g_ldc Γ (pc := 35) dX8_item_35 kK_X8_131 ?_
        exact rIr ret dX8_item_37 hf
      · refine g_ldcw Γ (pc := 29) dX8_item_29 kK_X8_320 ?_
        refine g_goto Γ (pc := 32) (tgt := 37) dX8_item_32 rfl ?_
        exact rIr ret dX8_item_37 hf
  · refine g_ldc Γ (pc := 7) dX8_item_7 kK_X8_78 ?_
    exact rIr ret dX8_item_9 hf
def f_X8_rest (a0 : Int32) (a1 : Int32) (μ : Mem) : Option (Int32) :=
  bn1 (f_X8_isSlot a0) fun v1 =>
  if v1 = 0 then
    some (-1000000001)
  else
    bn1 (ldM (μ 7) 5 a0) fun v2 =>
    if v2 = 3 then
      if a1 = 0 then
        some (-1000000002)
      else
        bn1 (ldM (μ 8) 5 a0) fun v3 =>
        bn1 (rmM v3 a1) fun v4 =>
        some v4
    else
      bn1 (ldM (μ 7) 5 a0) fun v5 =>
      if v5 = 0 then
        some (-1000000011)
      else
        some (-1000000012)
set_option maxRecDepth 100000 in
set_option maxHeartbeats 4000000 in
theorem c_X8_rest {Y : SYS} (hM : IsM Y) {a0 : Int32} {a1 : Int32} {μ : Mem} {x : Int32} (hf : f_X8_rest a0 a1 μ = some x) : KC Y yX8_rest cX8_rest 3 (some .int) 2 [.ref (sq Y 0), .int a0, .int a1] μ (some (.int x)) μ := by
  refine KC.I RX8 [(0, .ref (sq Y 0)), (1, .int a0), (2, .int a1)] (by decide) rfl (Nat.le_of_ble_eq_true rfl) rfl (fun G Γ ret => ?_)
  unfold f_X8_rest at hf
  refine g_iload_n Γ (pc := 0) 1 dX8_rest_0 rfl rfl ?_
  obtain ⟨v1, h1, hf⟩ := bn1_i hf
  refine g_callSI Γ (pc := 1) (as := [.int a0]) (st := []) dX8_rest_1 (c_X8_isSlot h1) mi_X8_isSlot ms_X8_isSlot kM_X8_331 rfl ⟨Nat.le_of_ble_eq_true rfl, Nat.le_of_ble_eq_true rfl⟩ rfl (Nat.le_of_ble_eq_true rfl) ?_
  refine g_if_ne Γ (pc := 4) (tgt := 10) dX8_rest_4 rfl hf (fun hf => ?_) (fun hf => ?_)
  · refine g_aload_n Γ (pc := 10) 0 dX8_rest_10 rfl rfl ?_
    refine g_get Γ (pc := 11) (v := .ref (sq Y 7)) dX8_rest_11 (M_obj hM) fr_X8_28 rfl ?_
    refine g_iload_n Γ (pc := 14) 1 dX8_rest_14 rfl rfl ?_
    refine g_iald Γ (pc := 15) dX8_rest_15 (M_7 hM) hf (fun v2 hf => ?_)
    refine g_iconst Γ (pc := 16) (v := 3) dX8_rest_16 rfl ?_
    refine g_icmp_eq Γ (pc := 17) (tgt := 38) dX8_rest_17 rfl hf (fun hf => ?_) (fun hf => ?_)
    · refine g_iload_n Γ (pc := 38) 2 dX8_rest_38 rfl rfl ?_
      refine g_if_ne Γ (pc := 39) (tgt := 47) dX8_rest_39 rfl hf (fun hf => ?_) (fun hf => ?_)
      · refine g_aload_n Γ (pc := 47) 0 dX8_rest_47 rfl rfl ?_
        refine g_get Γ (pc := 48) (v := .ref (sq Y 8)) dX8_rest_48 (M_obj hM) fr_X8_31 rfl ?_
        refine g_iload_n Γ (pc := 51) 1 dX8_rest_51 rfl rfl ?_
        refine g_iald Γ (pc := 52) dX8_rest_52 (M_8 hM) hf (fun v3 hf => ?_)
        refine g_iload_n Γ (pc := 53) 2 dX8_rest_53 rfl rfl ?_
        refine g_irem Γ (pc := 54) dX8_rest_54 hf (fun v4 hf => ?_)
        exact rIr ret dX8_rest_55 hf
      · refine g_ldc Γ (pc := 42) dX8_rest_42 kK_X8_182 ?_
        refine g_goto Γ (pc := 44) (tgt := 55) dX8_rest_44 rfl ?_
        exact rIr ret dX8_rest_55 hf
    · refine g_aload_n Γ (pc := 20) 0 dX8_rest_20 rfl rfl ?_
      refine g_get Γ (pc := 21) (v := .ref (sq Y 7)) dX8_rest_21 (M_obj hM) fr_X8_28 rfl ?_
      refine g_iload_n Γ (pc := 24) 1 dX8_rest_24 rfl rfl ?_
      refine g_iald Γ (pc := 25) dX8_rest_25 (M_7 hM) hf (fun v5 hf => ?_)
      refine g_if_ne Γ (pc := 26) (tgt := 35) dX8_rest_26 rfl hf (fun hf => ?_) (fun hf => ?_)
      · refine g_ldc Γ (pc := 35) dX8_rest_35 kK_X8_131 ?_
        exact rIr ret dX8_rest_37 hf
      · refine g_ldcw Γ (pc := 29) dX8_rest_29 kK_X8_320 ?_
        refine g_goto Γ (pc := 32) (tgt := 37) dX8_rest_32 rfl ?_
        exact rIr ret dX8_rest_37 hf
  · refine g_ldc Γ (pc := 7) dX8_rest_7 kK_X8_78 ?_
    exact rIr ret dX8_rest_9 hf
def f_X8_tell (a0 : Int32) (μ : Mem) : Option (Int32 × Mem) :=
  if (μ 0 29) = 60 then
    some ((-1000000003), μ)
  else
    bn1 (stM μ 17 60 (μ 0 29) a0) fun m1 =>
    nm (mset m1 0 29 ((m1 0 29) + 1)) fun m2 =>
    some ((m2 0 29), m2)
set_option maxRecDepth 100000 in
set_option maxHeartbeats 4000000 in
theorem c_X8_tell {Y : SYS} (hM : IsM Y) {a0 : Int32} {μ : Mem} {x : Int32} {m : Mem} (hf : f_X8_tell a0 μ = some (x, m)) : KC Y yX8_tell cX8_tell 2 (some .int) 0 [.ref (sq Y 0), .int a0] μ (some (.int x)) m := by
  refine KC.I RX8 [(0, .ref (sq Y 0)), (1, .int a0)] (by decide) rfl (Nat.le_of_ble_eq_true rfl) rfl (fun G Γ ret => ?_)
  unfold f_X8_tell at hf
  refine g_aload_n Γ (pc := 0) 0 dX8_tell_0 rfl rfl ?_
  refine g_get Γ (pc := 1) (v := .int (μ 0 29)) dX8_tell_1 (M_obj hM) fr_X8_334 rfl ?_
  refine g_bipush Γ (pc := 4) (v := 60) dX8_tell_4 rfl ?_
  refine g_icmp_ne Γ (pc := 6) (tgt := 12) dX8_tell_6 rfl hf (fun hf => ?_) (fun hf => ?_)
  · refine g_aload_n Γ (pc := 12) 0 dX8_tell_12 rfl rfl ?_
    refine g_get Γ (pc := 13) (v := .ref (sq Y 17)) dX8_tell_13 (M_obj hM) fr_X8_58 rfl ?_
    refine g_aload_n Γ (pc := 16) 0 dX8_tell_16 rfl rfl ?_
    refine g_get Γ (pc := 17) (v := .int (μ 0 29)) dX8_tell_17 (M_obj hM) fr_X8_334 rfl ?_
    refine g_iload_n Γ (pc := 20) 1 dX8_tell_20 rfl rfl ?_
    refine g_iast Γ (pc := 21) dX8_tell_21 (M_17 hM) hf (fun m1 hf => ?_)
    refine g_aload_n Γ (pc := 22) 0 dX8_tell_22 rfl rfl ?_
    refine g_dup Γ (pc := 23) dX8_tell_23 rfl ?_
    refine g_get Γ (pc := 24) (v := .int (m1 0 29)) dX8_tell_24 (M_obj hM) fr_X8_334 rfl ?_
    refine g_iconst Γ (pc := 27) (v := 1) dX8_tell_27 rfl ?_
    refine g_iadd Γ (pc := 28) dX8_tell_28 ?_
    refine g_put Γ (pc := 29) dX8_tell_29 (M_obj hM) fw_X8_334 (Nat.le_of_ble_eq_true rfl) rfl ?_
    refine g_nmm hf (fun m2 hf => ?_)
    refine g_aload_n Γ (pc := 32) 0 dX8_tell_32 rfl rfl ?_
    refine g_get Γ (pc := 33) (v := .int (m2 0 29)) dX8_tell_33 (M_obj hM) fr_X8_334 rfl ?_
    exact rI ret dX8_tell_36 hf
  · refine g_ldc Γ (pc := 9) dX8_tell_9 kK_X8_79 ?_
    exact rI ret dX8_tell_11 hf
def f_X8_setAside_K2_21 (m1 : Mem) : Option (Mem) :=
  some m1
def f_X8_setAside_L2 (k0 : Nat) (k1 : Nat) (x3_2 : Int32) (m3 : Mem) : Option ((Int32 × Mem) ⊕ Mem) :=
  if 2859 ≤ x3_2 then
    some (.inr m3)
  else
    bn1 (ldM (m3 k0) 3059 x3_2) fun v4 =>
    bn1 (stM m3 k1 3059 x3_2 v4) fun m5 =>
    some (.inl (x3_2 + 1, m5))
def f_X8_setAside (k0 : Nat) (k1 : Nat) (μ : Mem) : Option (Mem) :=
  bn1 (lpF (fun v => f_X8_setAside_L2 k0 k1 v.1 v.2) 4000 (0, μ)) (fun x => f_X8_setAside_K2_21 x)
set_option maxRecDepth 100000 in
set_option maxHeartbeats 4000000 in
theorem c_X8_setAside {Y : SYS} (hM : IsM Y) {k0 : Nat} {k1 : Nat} {μ : Mem} {m : Mem} (hk0 : IArr Y k0 3059) (hk1 : IArr Y k1 3059) (hf : f_X8_setAside k0 k1 μ = some m) : KC Y yX8_setAside cX8_setAside 4 none 0 [.ref (sq Y 0), .ref (sq Y k0), .ref (sq Y k1)] μ none m := by
  refine KC.V RX8 [(0, .ref (sq Y 0)), (1, .ref (sq Y k0)), (2, .ref (sq Y k1))] (by decide) rfl (Nat.le_of_ble_eq_true rfl) rfl (fun G Γ ret => ?_)
  unfold f_X8_setAside at hf
  refine g_iconst Γ (pc := 0) (v := 0) dX8_setAside_0 rfl ?_
  refine g_istore_n Γ (pc := 1) (lv' := [(3, .int 0), (0, .ref (sq Y 0)), (1, .ref (sq Y k0)), (2, .ref (sq Y k1))]) dX8_setAside_1 rfl (by decide) rfl ?_
  have K_2_21 : ∀ (m1 : Mem), f_X8_setAside_K2_21 m1 = some m → G 21 [] [] m1 := by
    intro m1 hf
    unfold f_X8_setAside_K2_21 at hf
    exact rV ret dX8_setAside_21 hf
  refine g_sub Γ [2, 3, 0] rfl ?_
  refine lpF_s (P := fun (v : Int32 × Mem) => G 2 [(1, .ref (sq Y k0)), (2, .ref (sq Y k1)), (3, .int v.1)] [] v.2) hf (fun v z1 hf kI1 kX1 => ?_)
  obtain ⟨x3_2, m3⟩ := v
  replace hf : f_X8_setAside_L2 k0 k1 x3_2 m3 = some z1 := hf
  show G 2 [(1, .ref (sq Y k0)), (2, .ref (sq Y k1)), (3, .int x3_2)] [] m3
  unfold f_X8_setAside_L2 at hf
  refine g_iload_n Γ (pc := 2) 2 dX8_setAside_2 rfl rfl ?_
  refine g_sipush Γ (pc := 3) (v := 2859) dX8_setAside_3 rfl ?_
  refine g_icmp_ge Γ (pc := 6) (tgt := 21) dX8_setAside_6 rfl hf (fun hf => ?_) (fun hf => ?_)
  · refine g_sub Γ [] rfl ?_
    exact K_2_21 m3 (kX1 m3 (Option.some.inj hf).symm)
  · refine g_aload_n Γ (pc := 9) 1 dX8_setAside_9 rfl rfl ?_
    refine g_iload_n Γ (pc := 10) 2 dX8_setAside_10 rfl rfl ?_
    refine g_aload_n Γ (pc := 11) 0 dX8_setAside_11 rfl rfl ?_
    refine g_iload_n Γ (pc := 12) 2 dX8_setAside_12 rfl rfl ?_
    refine g_iald Γ (pc := 13) dX8_setAside_13 hk0 hf (fun v4 hf => ?_)
    refine g_iast Γ (pc := 14) dX8_setAside_14 hk1 hf (fun m5 hf => ?_)
    refine g_iinc Γ (pc := 15) (v := x3_2 + 1) (lv' := [(3, .int (x3_2 + 1)), (1, .ref (sq Y k0)), (2, .ref (sq Y k1))]) 2 dX8_setAside_15 rfl rfl (by decide) rfl ?_
    refine g_goto Γ (pc := 18) (tgt := 2) dX8_setAside_18 rfl ?_
    refine g_sub Γ [1, 2, 0] rfl ?_
    exact kI1 (x3_2 + 1, m5) (Option.some.inj hf).symm
def f_X8_check_K134_169 (μ : Mem) (y3_5 : Int32) (m7 : Mem) (y4_8 : Int32) : Option (Int32 × Mem) :=
  if y4_8 = (μ 0 29) then
    if y4_8 = y3_5 then
      some (0, m7)
    else
      some ((1 + y4_8), m7)
  else
    some ((1 + y4_8), m7)
def f_X8_check_L134 (μ : Mem) (y3_5 : Int32) (m7 : Mem) (x4_9 : Int32) : Option (Int32 ⊕ Int32) :=
  if (μ 0 29) ≤ x4_9 then
    some (.inr x4_9)
  else
    if y3_5 ≤ x4_9 then
      some (.inr x4_9)
    else
      bn1 (ldM (m7 17) 60 x4_9) fun v10 =>
      bn1 (ldM (m7 18) 60 x4_9) fun v11 =>
      if v10 = v11 then
        some (.inl (x4_9 + 1))
      else
        some (.inr x4_9)
def f_X8_check_K64_119 (μ : Mem) (y3_5 : Int32) (m6 : Mem) : Option (Int32 × Mem) :=
  bn1 (f_X8_setAside 3 1 m6) fun m7 =>
  bn1 (lpF (fun v => f_X8_check_L134 μ y3_5 m7 v) 4000 0) (fun x => f_X8_check_K134_169 μ y3_5 m7 x)
def f_X8_check_L64 (a0 : Int32) (x3_12 : Int32) (x4_13 : Int32) (m14 : Mem) : Option ((Int32 × Int32 × Mem) ⊕ (Int32 × Mem)) :=
  if a0 ≤ x4_13 then
    some (.inr (x3_12, m14))
  else
    bn1 (ldM (m14 1) 3059 2) fun v15 =>
    if 9999 ≤ v15 then
      some (.inr (x3_12, m14))
    else
      bn1 (f_X8_goesOn m14) fun m16 =>
      bn1 (f_X8_forNow m16) fun v17 =>
      bn1 (stM m16 18 60 x3_12 v17) fun m18 =>
      bn1 (ldM (m18 1) 3059 3) fun v19 =>
      bn1 (stM m18 18 60 (x3_12 + 1) v19) fun m20 =>
      some (.inl (x3_12 + 2, x4_13 + 1, m20))
def f_X8_check (a0 : Int32) (μ : Mem) : Option (Int32 × Mem) :=
  nm (mset μ 0 29 0) fun m1 =>
  bn1 (f_X8_isIn a0.toInt64 1 30) fun v2 =>
  if v2 = 0 then
    some ((-1000000001), m1)
  else
    if (m1 0 3) = 0 then
      some ((-1000000002), m1)
    else
      bn1 (f_X8_setAside 1 3 m1) fun m3 =>
      bn1 (f_X8_setAside 2 1 m3) fun m4 =>
      bn1 (lpF (fun v => f_X8_check_L64 a0 v.1 v.2.1 v.2.2) 4000 (0, 0, m4)) (fun x => f_X8_check_K64_119 μ x.1 x.2)
set_option maxRecDepth 100000 in
set_option maxHeartbeats 4000000 in
theorem c_X8_check {Y : SYS} (hM : IsM Y) {a0 : Int32} {μ : Mem} {x : Int32} {m : Mem} (hf : f_X8_check a0 μ = some (x, m)) : KC Y yX8_check cX8_check 5 (some .int) 6 [.ref (sq Y 0), .int a0] μ (some (.int x)) m := by
  refine KC.I RX8 [(0, .ref (sq Y 0)), (1, .int a0)] (by decide) rfl (Nat.le_of_ble_eq_true rfl) rfl (fun G Γ ret => ?_)
  unfold f_X8_check at hf
  refine g_aload_n Γ (pc := 0) 0 dX8_check_0 rfl rfl ?_
  refine g_get Γ (pc := 1) (v := .int (μ 0 29)) dX8_check_1 (M_obj hM) fr_X8_334 rfl ?_
  refine g_istore_n Γ (pc := 4) (lv' := [(2, .int (μ 0 29)), (0, .ref (sq Y 0)), (1, .int a0)]) dX8_check_4 rfl (by decide) rfl ?_
  refine g_aload_n Γ (pc := 5) 1 dX8_check_5 rfl rfl ?_
  refine g_iconst Γ (pc := 6) (v := 0) dX8_check_6 rfl ?_
  refine g_put Γ (pc := 7) dX8_check_7 (M_obj hM) fw_X8_334 (Nat.le_of_ble_eq_true rfl) rfl ?_
  refine g_nmm hf (fun m1 hf => ?_)
  refine g_iload_n Γ (pc := 10) 2 dX8_check_10 rfl rfl ?_
  refine g_i2l Γ (pc := 11) dX8_check_11 ?_
  refine g_lconst Γ (pc := 12) (v := 1) dX8_check_12 rfl ?_
  refine g_ldc2 Γ (pc := 13) dX8_check_13 kL_X8_337 ?_
  obtain ⟨v2, h1, hf⟩ := bn1_i hf
  refine g_callSI Γ (pc := 16) (as := [.long a0.toInt64, .long 1, .long 30]) (st := []) dX8_check_16 (c_X8_isIn h1) mi_X8_isIn ms_X8_isIn kM_X8_65 rfl ⟨Nat.le_of_ble_eq_true rfl, Nat.le_of_ble_eq_true rfl⟩ rfl (Nat.le_of_ble_eq_true rfl) ?_
  refine g_if_ne Γ (pc := 19) (tgt := 25) dX8_check_19 rfl hf (fun hf => ?_) (fun hf => ?_)
  · refine g_aload_n Γ (pc := 25) 1 dX8_check_25 rfl rfl ?_
    refine g_get Γ (pc := 26) (v := .int (m1 0 3)) dX8_check_26 (M_obj hM) fr_X8_339 rfl ?_
    refine g_if_ne Γ (pc := 29) (tgt := 35) dX8_check_29 rfl hf (fun hf => ?_) (fun hf => ?_)
    · refine g_aload_n Γ (pc := 35) 1 dX8_check_35 rfl rfl ?_
      refine g_aload_n Γ (pc := 36) 1 dX8_check_36 rfl rfl ?_
      refine g_get Γ (pc := 37) (v := .ref (sq Y 1)) dX8_check_37 (M_obj hM) fr_X8_7 rfl ?_
      refine g_aload_n Γ (pc := 40) 1 dX8_check_40 rfl rfl ?_
      refine g_get Γ (pc := 41) (v := .ref (sq Y 3)) dX8_check_41 (M_obj hM) fr_X8_16 rfl ?_
      obtain ⟨m3, h1, hf⟩ := bn1_i hf
      refine g_callVV Γ (pc := 44) (as := [.ref (sq Y 1), .ref (sq Y 3)]) (st := []) dX8_check_44 (c_X8_setAside hM (M_1 hM) (M_3 hM) h1) (M_obj hM) rfl mi_X8_setAside mv_X8_setAside kM_X8_343 rfl ⟨Nat.le_of_ble_eq_true rfl, Nat.le_of_ble_eq_true rfl⟩ rfl (Nat.le_of_ble_eq_true rfl) ?_
      refine g_aload_n Γ (pc := 47) 1 dX8_check_47 rfl rfl ?_
      refine g_aload_n Γ (pc := 48) 1 dX8_check_48 rfl rfl ?_
      refine g_get Γ (pc := 49) (v := .ref (sq Y 2)) dX8_check_49 (M_obj hM) fr_X8_13 rfl ?_
      refine g_aload_n Γ (pc := 52) 1 dX8_check_52 rfl rfl ?_
      refine g_get Γ (pc := 53) (v := .ref (sq Y 1)) dX8_check_53 (M_obj hM) fr_X8_7 rfl ?_
      obtain ⟨m4, h1, hf⟩ := bn1_i hf
      refine g_callVV Γ (pc := 56) (as := [.ref (sq Y 2), .ref (sq Y 1)]) (st := []) dX8_check_56 (c_X8_setAside hM (M_2 hM) (M_1 hM) h1) (M_obj hM) rfl mi_X8_setAside mv_X8_setAside kM_X8_343 rfl ⟨Nat.le_of_ble_eq_true rfl, Nat.le_of_ble_eq_true rfl⟩ rfl (Nat.le_of_ble_eq_true rfl) ?_
      refine g_iconst Γ (pc := 59) (v := 0) dX8_check_59 rfl ?_
      refine g_istore_n Γ (pc := 60) (lv' := [(3, .int 0), (2, .int (μ 0 29)), (0, .ref (sq Y 0)), (1, .int a0)]) dX8_check_60 rfl (by decide) rfl ?_
      refine g_iconst Γ (pc := 61) (v := 0) dX8_check_61 rfl ?_
      refine g_istore Γ (pc := 62) (lv' := [(4, .int 0), (3, .int 0), (2, .int (μ 0 29)), (0, .ref (sq Y 0)), (1, .int a0)]) dX8_check_62 (by decide) rfl ?_
      have K_64_119 : ∀ (y3_5 : Int32) (m6 : Mem), f_X8_check_K64_119 μ y3_5 m6 = some (x, m) → G 119 [(0, .ref (sq Y 0)), (2, .int (μ 0 29)), (3, .int y3_5)] [] m6 := by
        intro y3_5 m6 hf
        unfold f_X8_check_K64_119 at hf
        refine g_aload_n Γ (pc := 119) 0 dX8_check_119 rfl rfl ?_
        refine g_aload_n Γ (pc := 120) 0 dX8_check_120 rfl rfl ?_
        refine g_get Γ (pc := 121) (v := .ref (sq Y 3)) dX8_check_121 (M_obj hM) fr_X8_16 rfl ?_
        refine g_aload_n Γ (pc := 124) 0 dX8_check_124 rfl rfl ?_
        refine g_get Γ (pc := 125) (v := .ref (sq Y 1)) dX8_check_125 (M_obj hM) fr_X8_7 rfl ?_
        obtain ⟨m7, h1, hf⟩ := bn1_i hf
        refine g_callVV Γ (pc := 128) (as := [.ref (sq Y 3), .ref (sq Y 1)]) (st := []) dX8_check_128 (c_X8_setAside hM (M_3 hM) (M_1 hM) h1) (M_obj hM) rfl mi_X8_setAside mv_X8_setAside kM_X8_343 rfl ⟨Nat.le_of_ble_eq_true rfl, Nat.le_of_ble_eq_true rfl⟩ rfl (Nat.le_of_ble_eq_true rfl) ?_
        refine g_iconst Γ (pc := 131) (v := 0) dX8_check_131 rfl ?_
        refine g_istore Γ (pc := 132) (lv' := [(4, .int 0), (0, .ref (sq Y 0)), (2, .int (μ 0 29)), (3, .int y3_5)]) dX8_check_132 (by decide) rfl ?_
        have K_134_169 : ∀ (y4_8 : Int32), f_X8_check_K134_169 μ y3_5 m7 y4_8 = some (x, m) → G 169 [(2, .int (μ 0 29)), (3, .int y3_5), (4, .int y4_8)] [] m7 := by
          intro y4_8 hf
          unfold f_X8_check_K134_169 at hf
          refine g_iload Γ (pc := 169) 2 dX8_check_169 rfl ?_
          refine g_iload_n Γ (pc := 171) 0 dX8_check_171 rfl rfl ?_
          refine g_icmp_ne Γ (pc := 172) (tgt := 185) dX8_check_172 rfl hf (fun hf => ?_) (fun hf => ?_)
          · refine g_iconst Γ (pc := 185) (v := 1) dX8_check_185 rfl ?_
            refine g_iload Γ (pc := 186) 2 dX8_check_186 rfl ?_
            refine g_iadd Γ (pc := 188) dX8_check_188 ?_
            exact rI ret dX8_check_189 hf
          · refine g_iload Γ (pc := 175) 2 dX8_check_175 rfl ?_
            refine g_iload_n Γ (pc := 177) 1 dX8_check_177 rfl rfl ?_
            refine g_icmp_ne Γ (pc := 178) (tgt := 185) dX8_check_178 rfl hf (fun hf => ?_) (fun hf => ?_)
            · refine g_iconst Γ (pc := 185) (v := 1) dX8_check_185 rfl ?_
              refine g_iload Γ (pc := 186) 2 dX8_check_186 rfl ?_
              refine g_iadd Γ (pc := 188) dX8_check_188 ?_
              exact rI ret dX8_check_189 hf
            · refine g_iconst Γ (pc := 181) (v := 0) dX8_check_181 rfl ?_
              refine g_goto Γ (pc := 182) (tgt := 189) dX8_check_182 rfl ?_
              exact rI ret dX8_check_189 hf
        refine g_sub Γ [1, 2, 3, 0] rfl ?_
        refine lpF_s (P := fun (v : Int32) => G 134 [(0, .ref (sq Y 0)), (2, .int (μ 0 29)), (3, .int y3_5), (4, .int v)] [] m7) hf (fun v z1 hf kI1 kX1 => ?_)
        obtain ⟨x4_9, rfl⟩ : ∃ w, w = v := ⟨v, rfl⟩
        replace hf : f_X8_check_L134 μ y3_5 m7 x4_9 = some z1 := hf
        show G 134 [(0, .ref (sq Y 0)), (2, .int (μ 0 29)), (3, .int y3_5), (4, .int x4_9)] [] m7
        unfold f_X8_check_L134 at hf
        refine g_iload Γ (pc := 134) 3 dX8_check_134 rfl ?_
        refine g_iload_n Γ (pc := 136) 1 dX8_check_136 rfl rfl ?_
        refine g_icmp_ge Γ (pc := 137) (tgt := 169) dX8_check_137 rfl hf (fun hf => ?_) (fun hf => ?_)
        · refine g_sub Γ [1, 2, 3] rfl ?_
          exact K_134_169 x4_9 (kX1 x4_9 (Option.some.inj hf).symm)
        · refine g_iload Γ (pc := 140) 3 dX8_check_140 rfl ?_
          refine g_iload_n Γ (pc := 142) 2 dX8_check_142 rfl rfl ?_
          refine g_icmp_ge Γ (pc := 143) (tgt := 169) dX8_check_143 rfl hf (fun hf => ?_) (fun hf => ?_)
          · refine g_sub Γ [1, 2, 3] rfl ?_
            exact K_134_169 x4_9 (kX1 x4_9 (Option.some.inj hf).symm)
          · refine g_aload_n Γ (pc := 146) 0 dX8_check_146 rfl rfl ?_
            refine g_get Γ (pc := 147) (v := .ref (sq Y 17)) dX8_check_147 (M_obj hM) fr_X8_58 rfl ?_
            refine g_iload Γ (pc := 150) 3 dX8_check_150 rfl ?_
            refine g_iald Γ (pc := 152) dX8_check_152 (M_17 hM) hf (fun v10 hf => ?_)
            refine g_aload_n Γ (pc := 153) 0 dX8_check_153 rfl rfl ?_
            refine g_get Γ (pc := 154) (v := .ref (sq Y 18)) dX8_check_154 (M_obj hM) fr_X8_61 rfl ?_
            refine g_iload Γ (pc := 157) 3 dX8_check_157 rfl ?_
            refine g_iald Γ (pc := 159) dX8_check_159 (M_18 hM) hf (fun v11 hf => ?_)
            refine g_icmp_ne Γ (pc := 160) (tgt := 169) dX8_check_160 rfl hf (fun hf => ?_) (fun hf => ?_)
            · refine g_sub Γ [1, 2, 3] rfl ?_
              exact K_134_169 x4_9 (kX1 x4_9 (Option.some.inj hf).symm)
            · refine g_iinc Γ (pc := 163) (v := x4_9 + 1) (lv' := [(4, .int (x4_9 + 1)), (0, .ref (sq Y 0)), (2, .int (μ 0 29)), (3, .int y3_5)]) 3 dX8_check_163 rfl rfl (by decide) rfl ?_
              refine g_goto Γ (pc := 166) (tgt := 134) dX8_check_166 rfl ?_
              refine g_sub Γ [1, 2, 3, 0] rfl ?_
              exact kI1 (x4_9 + 1) (Option.some.inj hf).symm
      refine g_sub Γ [3, 4, 2, 1, 0] rfl ?_
      refine lpF_s (P := fun (v : Int32 × Int32 × Mem) => G 64 [(0, .ref (sq Y 0)), (1, .int a0), (2, .int (μ 0 29)), (3, .int v.1), (4, .int v.2.1)] [] v.2.2) hf (fun v z1 hf kI1 kX1 => ?_)
      obtain ⟨x3_12, x4_13, m14⟩ := v
      replace hf : f_X8_check_L64 a0 x3_12 x4_13 m14 = some z1 := hf
      show G 64 [(0, .ref (sq Y 0)), (1, .int a0), (2, .int (μ 0 29)), (3, .int x3_12), (4, .int x4_13)] [] m14
      unfold f_X8_check_L64 at hf
      refine g_iload Γ (pc := 64) 4 dX8_check_64 rfl ?_
      refine g_iload_n Γ (pc := 66) 1 dX8_check_66 rfl rfl ?_
      refine g_icmp_ge Γ (pc := 67) (tgt := 119) dX8_check_67 rfl hf (fun hf => ?_) (fun hf => ?_)
      · refine g_sub Γ [0, 2, 3] rfl ?_
        exact K_64_119 x3_12 m14 (kX1 (x3_12, m14) (Option.some.inj hf).symm)
      · refine g_aload_n Γ (pc := 70) 0 dX8_check_70 rfl rfl ?_
        refine g_get Γ (pc := 71) (v := .ref (sq Y 1)) dX8_check_71 (M_obj hM) fr_X8_7 rfl ?_
        refine g_iconst Γ (pc := 74) (v := 2) dX8_check_74 rfl ?_
        refine g_iald Γ (pc := 75) dX8_check_75 (M_1 hM) hf (fun v15 hf => ?_)
        refine g_sipush Γ (pc := 76) (v := 9999) dX8_check_76 rfl ?_
        refine g_icmp_ge Γ (pc := 79) (tgt := 119) dX8_check_79 rfl hf (fun hf => ?_) (fun hf => ?_)
        · refine g_sub Γ [0, 2, 3] rfl ?_
          exact K_64_119 x3_12 m14 (kX1 (x3_12, m14) (Option.some.inj hf).symm)
        · refine g_aload_n Γ (pc := 82) 0 dX8_check_82 rfl rfl ?_
          obtain ⟨m16, h1, hf⟩ := bn1_i hf
          refine g_callVV Γ (pc := 83) (as := []) (st := []) dX8_check_83 (c_X8_goesOn hM h1) (M_obj hM) rfl mi_X8_goesOn mv_X8_goesOn kM_X8_203 rfl ⟨Nat.le_of_ble_eq_true rfl, Nat.le_of_ble_eq_true rfl⟩ rfl (Nat.le_of_ble_eq_true rfl) ?_
          refine g_aload_n Γ (pc := 86) 0 dX8_check_86 rfl rfl ?_
          refine g_get Γ (pc := 87) (v := .ref (sq Y 18)) dX8_check_87 (M_obj hM) fr_X8_61 rfl ?_
          refine g_iload_n Γ (pc := 90) 3 dX8_check_90 rfl rfl ?_
          refine g_aload_n Γ (pc := 91) 0 dX8_check_91 rfl rfl ?_
          obtain ⟨v17, h1, hf⟩ := bn1_i hf
          refine g_callVI Γ (pc := 92) (as := []) (st := [.int x3_12, .ref (sq Y 18)]) dX8_check_92 (c_X8_forNow hM h1) (M_obj hM) rfl mi_X8_forNow mv_X8_forNow kM_X8_94 rfl ⟨Nat.le_of_ble_eq_true rfl, Nat.le_of_ble_eq_true rfl⟩ rfl (Nat.le_of_ble_eq_true rfl) ?_
          refine g_iast Γ (pc := 95) dX8_check_95 (M_18 hM) hf (fun m18 hf => ?_)
          refine g_aload_n Γ (pc := 96) 0 dX8_check_96 rfl rfl ?_
          refine g_get Γ (pc := 97) (v := .ref (sq Y 18)) dX8_check_97 (M_obj hM) fr_X8_61 rfl ?_
          refine g_iload_n Γ (pc := 100) 3 dX8_check_100 rfl rfl ?_
          refine g_iconst Γ (pc := 101) (v := 1) dX8_check_101 rfl ?_
          refine g_iadd Γ (pc := 102) dX8_check_102 ?_
          refine g_aload_n Γ (pc := 103) 0 dX8_check_103 rfl rfl ?_
          refine g_get Γ (pc := 104) (v := .ref (sq Y 1)) dX8_check_104 (M_obj hM) fr_X8_7 rfl ?_
          refine g_iconst Γ (pc := 107) (v := 3) dX8_check_107 rfl ?_
          refine g_iald Γ (pc := 108) dX8_check_108 (M_1 hM) hf (fun v19 hf => ?_)
          refine g_iast Γ (pc := 109) dX8_check_109 (M_18 hM) hf (fun m20 hf => ?_)
          refine g_iinc Γ (pc := 110) (v := x3_12 + 2) (lv' := [(3, .int (x3_12 + 2)), (0, .ref (sq Y 0)), (1, .int a0), (2, .int (μ 0 29)), (4, .int x4_13)]) 3 dX8_check_110 rfl rfl (by decide) rfl ?_
          refine g_iinc Γ (pc := 113) (v := x4_13 + 1) (lv' := [(4, .int (x4_13 + 1)), (3, .int (x3_12 + 2)), (0, .ref (sq Y 0)), (1, .int a0), (2, .int (μ 0 29))]) 4 dX8_check_113 rfl rfl (by decide) rfl ?_
          refine g_goto Γ (pc := 116) (tgt := 64) dX8_check_116 rfl ?_
          refine g_sub Γ [2, 3, 4, 1, 0] rfl ?_
          exact kI1 (x3_12 + 2, x4_13 + 1, m20) (Option.some.inj hf).symm
    · refine g_ldc Γ (pc := 32) dX8_check_32 kK_X8_182 ?_
      exact rI ret dX8_check_34 hf
  · refine g_ldc Γ (pc := 22) dX8_check_22 kK_X8_78 ?_
    exact rI ret dX8_check_24 hf
def f_X8_keep (μ : Mem) : Option (Int32 × Mem) :=
  nm (mset μ 0 3 1) fun m1 =>
  bn1 (f_X8_setAside 1 2 m1) fun m2 =>
  bn1 (ldM (m2 1) 3059 0) fun v3 =>
  some (v3, m2)
set_option maxRecDepth 100000 in
set_option maxHeartbeats 4000000 in
theorem c_X8_keep {Y : SYS} (hM : IsM Y) {μ : Mem} {x : Int32} {m : Mem} (hf : f_X8_keep μ = some (x, m)) : KC Y yX8_keep cX8_keep 1 (some .int) 1 [.ref (sq Y 0)] μ (some (.int x)) m := by
  refine KC.I RX8 [(0, .ref (sq Y 0))] (by decide) rfl (Nat.le_of_ble_eq_true rfl) rfl (fun G Γ ret => ?_)
  unfold f_X8_keep at hf
  refine g_aload_n Γ (pc := 0) 0 dX8_keep_0 rfl rfl ?_
  refine g_iconst Γ (pc := 1) (v := 1) dX8_keep_1 rfl ?_
  refine g_putz Γ (pc := 2) dX8_keep_2 (M_obj hM) fw_X8_339 (Or.inr rfl) (Nat.le_of_ble_eq_true rfl) rfl ?_
  refine g_nmm hf (fun m1 hf => ?_)
  refine g_aload_n Γ (pc := 5) 0 dX8_keep_5 rfl rfl ?_
  refine g_aload_n Γ (pc := 6) 0 dX8_keep_6 rfl rfl ?_
  refine g_get Γ (pc := 7) (v := .ref (sq Y 1)) dX8_keep_7 (M_obj hM) fr_X8_7 rfl ?_
  refine g_aload_n Γ (pc := 10) 0 dX8_keep_10 rfl rfl ?_
  refine g_get Γ (pc := 11) (v := .ref (sq Y 2)) dX8_keep_11 (M_obj hM) fr_X8_13 rfl ?_
  obtain ⟨m2, h1, hf⟩ := bn1_i hf
  refine g_callVV Γ (pc := 14) (as := [.ref (sq Y 1), .ref (sq Y 2)]) (st := []) dX8_keep_14 (c_X8_setAside hM (M_1 hM) (M_2 hM) h1) (M_obj hM) rfl mi_X8_setAside mv_X8_setAside kM_X8_343 rfl ⟨Nat.le_of_ble_eq_true rfl, Nat.le_of_ble_eq_true rfl⟩ rfl (Nat.le_of_ble_eq_true rfl) ?_
  refine g_aload_n Γ (pc := 17) 0 dX8_keep_17 rfl rfl ?_
  refine g_get Γ (pc := 18) (v := .ref (sq Y 1)) dX8_keep_18 (M_obj hM) fr_X8_7 rfl ?_
  refine g_iconst Γ (pc := 21) (v := 0) dX8_keep_21 rfl ?_
  refine g_iald Γ (pc := 22) dX8_keep_22 (M_1 hM) hf (fun v3 hf => ?_)
  exact rI ret dX8_keep_23 hf
def f_X8_back (μ : Mem) : Option (Int32 × Mem) :=
  if (μ 0 3) = 0 then
    some ((-1000000002), μ)
  else
    bn1 (f_X8_setAside 2 1 μ) fun m1 =>
    bn1 (ldM (m1 1) 3059 0) fun v2 =>
    some (v2, m1)
set_option maxRecDepth 100000 in
set_option maxHeartbeats 4000000 in
theorem c_X8_back {Y : SYS} (hM : IsM Y) {μ : Mem} {x : Int32} {m : Mem} (hf : f_X8_back μ = some (x, m)) : KC Y yX8_back cX8_back 1 (some .int) 1 [.ref (sq Y 0)] μ (some (.int x)) m := by
  refine KC.I RX8 [(0, .ref (sq Y 0))] (by decide) rfl (Nat.le_of_ble_eq_true rfl) rfl (fun G Γ ret => ?_)
  unfold f_X8_back at hf
  refine g_aload_n Γ (pc := 0) 0 dX8_back_0 rfl rfl ?_
  refine g_get Γ (pc := 1) (v := .int (μ 0 3)) dX8_back_1 (M_obj hM) fr_X8_339 rfl ?_
  refine g_if_ne Γ (pc := 4) (tgt := 10) dX8_back_4 rfl hf (fun hf => ?_) (fun hf => ?_)
  · refine g_aload_n Γ (pc := 10) 0 dX8_back_10 rfl rfl ?_
    refine g_aload_n Γ (pc := 11) 0 dX8_back_11 rfl rfl ?_
    refine g_get Γ (pc := 12) (v := .ref (sq Y 2)) dX8_back_12 (M_obj hM) fr_X8_13 rfl ?_
    refine g_aload_n Γ (pc := 15) 0 dX8_back_15 rfl rfl ?_
    refine g_get Γ (pc := 16) (v := .ref (sq Y 1)) dX8_back_16 (M_obj hM) fr_X8_7 rfl ?_
    obtain ⟨m1, h1, hf⟩ := bn1_i hf
    refine g_callVV Γ (pc := 19) (as := [.ref (sq Y 2), .ref (sq Y 1)]) (st := []) dX8_back_19 (c_X8_setAside hM (M_2 hM) (M_1 hM) h1) (M_obj hM) rfl mi_X8_setAside mv_X8_setAside kM_X8_343 rfl ⟨Nat.le_of_ble_eq_true rfl, Nat.le_of_ble_eq_true rfl⟩ rfl (Nat.le_of_ble_eq_true rfl) ?_
    refine g_aload_n Γ (pc := 22) 0 dX8_back_22 rfl rfl ?_
    refine g_get Γ (pc := 23) (v := .ref (sq Y 1)) dX8_back_23 (M_obj hM) fr_X8_7 rfl ?_
    refine g_iconst Γ (pc := 26) (v := 0) dX8_back_26 rfl ?_
    refine g_iald Γ (pc := 27) dX8_back_27 (M_1 hM) hf (fun v2 hf => ?_)
    exact rI ret dX8_back_28 hf
  · refine g_ldc Γ (pc := 7) dX8_back_7 kK_X8_182 ?_
    exact rI ret dX8_back_9 hf
def f_X8_count (a0 : Int32) (μ : Mem) : Option (Int32) :=
  if a0 = 0 then
    bn1 (ldM (μ 1) 3059 0) fun v9 =>
    some v9
  else
    if a0 = 1 then
      bn1 (ldM (μ 1) 3059 2) fun v8 =>
      some v8
    else
      if a0 = 2 then
        bn1 (ldM (μ 1) 3059 6) fun v7 =>
        some v7
      else
        if a0 = 3 then
          bn1 (ldM (μ 1) 3059 7) fun v6 =>
          some v6
        else
          if a0 = 4 then
            bn1 (ldM (μ 1) 3059 8) fun v5 =>
            some v5
          else
            if a0 = 5 then
              bn1 (f_X8_forNow μ) fun v3 =>
              bn1 (f_X8_manyIn v3) fun v4 =>
              some v4
            else
              if a0 = 6 then
                bn1 (ldM (μ 1) 3059 1) fun v2 =>
                some v2
              else
                if a0 = 7 then
                  some (μ 0 29)
                else
                  if a0 = 8 then
                    some (μ 0 14)
                  else
                    if a0 = 9 then
                      bn1 (ldM (μ 1) 3059 5) fun v1 =>
                      some v1
                    else
                      some (-1000000001)
set_option maxRecDepth 100000 in
set_option maxHeartbeats 4000000 in
theorem c_X8_count {Y : SYS} (hM : IsM Y) {a0 : Int32} {μ : Mem} {x : Int32} (hf : f_X8_count a0 μ = some x) : KC Y yX8_count cX8_count 2 (some .int) 2 [.ref (sq Y 0), .int a0] μ (some (.int x)) μ := by
  refine KC.I RX8 [(0, .ref (sq Y 0)), (1, .int a0)] (by decide) rfl (Nat.le_of_ble_eq_true rfl) rfl (fun G Γ ret => ?_)
  unfold f_X8_count at hf
  refine g_iload_n Γ (pc := 0) 1 dX8_count_0 rfl rfl ?_
  by_cases h1_0 : a0 = 0
  · replace hf := ite_t h1_0 hf
    refine g_tin Γ (pc := 1) (tgt := 56) 0 dX8_count_1 h1_0 (by decide) (by decide) rfl rfl ?_
    refine g_aload_n Γ (pc := 56) 0 dX8_count_56 rfl rfl ?_
    refine g_get Γ (pc := 57) (v := .ref (sq Y 1)) dX8_count_57 (M_obj hM) fr_X8_7 rfl ?_
    refine g_iconst Γ (pc := 60) (v := 0) dX8_count_60 rfl ?_
    refine g_iald Γ (pc := 61) dX8_count_61 (M_1 hM) hf (fun v9 hf => ?_)
    exact rIr ret dX8_count_62 hf
  · replace hf := ite_f h1_0 hf
    by_cases h1_1 : a0 = 1
    · replace hf := ite_t h1_1 hf
      refine g_tin Γ (pc := 1) (tgt := 63) 1 dX8_count_1 h1_1 (by decide) (by decide) rfl rfl ?_
      refine g_aload_n Γ (pc := 63) 0 dX8_count_63 rfl rfl ?_
      refine g_get Γ (pc := 64) (v := .ref (sq Y 1)) dX8_count_64 (M_obj hM) fr_X8_7 rfl ?_
      refine g_iconst Γ (pc := 67) (v := 2) dX8_count_67 rfl ?_
      refine g_iald Γ (pc := 68) dX8_count_68 (M_1 hM) hf (fun v8 hf => ?_)
      exact rIr ret dX8_count_69 hf
    · replace hf := ite_f h1_1 hf
      by_cases h1_2 : a0 = 2
      · replace hf := ite_t h1_2 hf
        refine g_tin Γ (pc := 1) (tgt := 70) 2 dX8_count_1 h1_2 (by decide) (by decide) rfl rfl ?_
        refine g_aload_n Γ (pc := 70) 0 dX8_count_70 rfl rfl ?_
        refine g_get Γ (pc := 71) (v := .ref (sq Y 1)) dX8_count_71 (M_obj hM) fr_X8_7 rfl ?_
        refine g_bipush Γ (pc := 74) (v := 6) dX8_count_74 rfl ?_
        refine g_iald Γ (pc := 76) dX8_count_76 (M_1 hM) hf (fun v7 hf => ?_)
        exact rIr ret dX8_count_77 hf
      · replace hf := ite_f h1_2 hf
        by_cases h1_3 : a0 = 3
        · replace hf := ite_t h1_3 hf
          refine g_tin Γ (pc := 1) (tgt := 78) 3 dX8_count_1 h1_3 (by decide) (by decide) rfl rfl ?_
          refine g_aload_n Γ (pc := 78) 0 dX8_count_78 rfl rfl ?_
          refine g_get Γ (pc := 79) (v := .ref (sq Y 1)) dX8_count_79 (M_obj hM) fr_X8_7 rfl ?_
          refine g_bipush Γ (pc := 82) (v := 7) dX8_count_82 rfl ?_
          refine g_iald Γ (pc := 84) dX8_count_84 (M_1 hM) hf (fun v6 hf => ?_)
          exact rIr ret dX8_count_85 hf
        · replace hf := ite_f h1_3 hf
          by_cases h1_4 : a0 = 4
          · replace hf := ite_t h1_4 hf
            refine g_tin Γ (pc := 1) (tgt := 86) 4 dX8_count_1 h1_4 (by decide) (by decide) rfl rfl ?_
            refine g_aload_n Γ (pc := 86) 0 dX8_count_86 rfl rfl ?_
            refine g_get Γ (pc := 87) (v := .ref (sq Y 1)) dX8_count_87 (M_obj hM) fr_X8_7 rfl ?_
            refine g_bipush Γ (pc := 90) (v := 8) dX8_count_90 rfl ?_
            refine g_iald Γ (pc := 92) dX8_count_92 (M_1 hM) hf (fun v5 hf => ?_)
            exact rIr ret dX8_count_93 hf
          · replace hf := ite_f h1_4 hf
            by_cases h1_5 : a0 = 5
            · replace hf := ite_t h1_5 hf
              refine g_tin Γ (pc := 1) (tgt := 94) 5 dX8_count_1 h1_5 (by decide) (by decide) rfl rfl ?_
              refine g_aload_n Γ (pc := 94) 0 dX8_count_94 rfl rfl ?_
              obtain ⟨v3, h1, hf⟩ := bn1_i hf
              refine g_callVI Γ (pc := 95) (as := []) (st := []) dX8_count_95 (c_X8_forNow hM h1) (M_obj hM) rfl mi_X8_forNow mv_X8_forNow kM_X8_94 rfl ⟨Nat.le_of_ble_eq_true rfl, Nat.le_of_ble_eq_true rfl⟩ rfl (Nat.le_of_ble_eq_true rfl) ?_
              obtain ⟨v4, h1, hf⟩ := bn1_i hf
              refine g_callSI Γ (pc := 98) (as := [.int v3]) (st := []) dX8_count_98 (c_X8_manyIn h1) mi_X8_manyIn ms_X8_manyIn kM_X8_87 rfl ⟨Nat.le_of_ble_eq_true rfl, Nat.le_of_ble_eq_true rfl⟩ rfl (Nat.le_of_ble_eq_true rfl) ?_
              exact rIr ret dX8_count_101 hf
            · replace hf := ite_f h1_5 hf
              by_cases h1_6 : a0 = 6
              · replace hf := ite_t h1_6 hf
                refine g_tin Γ (pc := 1) (tgt := 102) 6 dX8_count_1 h1_6 (by decide) (by decide) rfl rfl ?_
                refine g_aload_n Γ (pc := 102) 0 dX8_count_102 rfl rfl ?_
                refine g_get Γ (pc := 103) (v := .ref (sq Y 1)) dX8_count_103 (M_obj hM) fr_X8_7 rfl ?_
                refine g_iconst Γ (pc := 106) (v := 1) dX8_count_106 rfl ?_
                refine g_iald Γ (pc := 107) dX8_count_107 (M_1 hM) hf (fun v2 hf => ?_)
                exact rIr ret dX8_count_108 hf
              · replace hf := ite_f h1_6 hf
                by_cases h1_7 : a0 = 7
                · replace hf := ite_t h1_7 hf
                  refine g_tin Γ (pc := 1) (tgt := 109) 7 dX8_count_1 h1_7 (by decide) (by decide) rfl rfl ?_
                  refine g_aload_n Γ (pc := 109) 0 dX8_count_109 rfl rfl ?_
                  refine g_get Γ (pc := 110) (v := .int (μ 0 29)) dX8_count_110 (M_obj hM) fr_X8_334 rfl ?_
                  exact rIr ret dX8_count_113 hf
                · replace hf := ite_f h1_7 hf
                  by_cases h1_8 : a0 = 8
                  · replace hf := ite_t h1_8 hf
                    refine g_tin Γ (pc := 1) (tgt := 114) 8 dX8_count_1 h1_8 (by decide) (by decide) rfl rfl ?_
                    refine g_aload_n Γ (pc := 114) 0 dX8_count_114 rfl rfl ?_
                    refine g_get Γ (pc := 115) (v := .int (μ 0 14)) dX8_count_115 (M_obj hM) fr_X8_217 rfl ?_
                    exact rIr ret dX8_count_118 hf
                  · replace hf := ite_f h1_8 hf
                    by_cases h1_9 : a0 = 9
                    · replace hf := ite_t h1_9 hf
                      refine g_tin Γ (pc := 1) (tgt := 119) 9 dX8_count_1 h1_9 (by decide) (by decide) rfl rfl ?_
                      refine g_aload_n Γ (pc := 119) 0 dX8_count_119 rfl rfl ?_
                      refine g_get Γ (pc := 120) (v := .ref (sq Y 1)) dX8_count_120 (M_obj hM) fr_X8_7 rfl ?_
                      refine g_iconst Γ (pc := 123) (v := 5) dX8_count_123 rfl ?_
                      refine g_iald Γ (pc := 124) dX8_count_124 (M_1 hM) hf (fun v1 hf => ?_)
                      exact rIr ret dX8_count_125 hf
                    · replace hf := ite_f h1_9 hf
                      refine g_tableOut Γ (pc := 1) (tgt := 126) dX8_count_1 (by have e0 := ne_ti (k := 0) rfl h1_0; have e1 := ne_ti (k := 1) rfl h1_1; have e2 := ne_ti (k := 2) rfl h1_2; have e3 := ne_ti (k := 3) rfl h1_3; have e4 := ne_ti (k := 4) rfl h1_4; have e5 := ne_ti (k := 5) rfl h1_5; have e6 := ne_ti (k := 6) rfl h1_6; have e7 := ne_ti (k := 7) rfl h1_7; have e8 := ne_ti (k := 8) rfl h1_8; have e9 := ne_ti (k := 9) rfl h1_9; omega) rfl ?_
                      refine g_ldc Γ (pc := 126) dX8_count_126 kK_X8_78 ?_
                      exact rIr ret dX8_count_128 hf
