def f_X7_outside (a0 : Int32) (a1 : Int32) (a2 : Int32) : Option (Int32) :=
  if a0 < a1 then
    some 1
  else
    if a0 ≤ a2 then
      some 0
    else
      some 1
set_option maxRecDepth 100000 in
set_option maxHeartbeats 4000000 in
theorem c_X7_outside {Y : SYS} {a0 : Int32} {a1 : Int32} {a2 : Int32} {μ : Mem} {x : Int32} (hf : f_X7_outside a0 a1 a2 = some x) : KC Y yX7_outside cX7_outside 3 (some .boolean) 0 [.int a0, .int a1, .int a2] μ (some (.int x)) μ := by
  refine KC.Z RX7 [(0, .int a0), (1, .int a1), (2, .int a2)] (by decide) rfl (Nat.le_of_ble_eq_true rfl) rfl (fun G Γ ret => ?_)
  unfold f_X7_outside at hf
  refine g_iload_n Γ (pc := 0) 0 dX7_outside_0 rfl rfl ?_
  refine g_iload_n Γ (pc := 1) 1 dX7_outside_1 rfl rfl ?_
  refine g_icmp_lt Γ (pc := 2) (tgt := 10) dX7_outside_2 rfl hf (fun hf => ?_) (fun hf => ?_)
  · refine g_iconst Γ (pc := 10) (v := 1) dX7_outside_10 rfl ?_
    refine g_goto Γ (pc := 11) (tgt := 15) dX7_outside_11 rfl ?_
    exact rZkr ret dX7_outside_15 (Or.inr rfl) hf
  · refine g_iload_n Γ (pc := 5) 0 dX7_outside_5 rfl rfl ?_
    refine g_iload_n Γ (pc := 6) 2 dX7_outside_6 rfl rfl ?_
    refine g_icmp_le Γ (pc := 7) (tgt := 14) dX7_outside_7 rfl hf (fun hf => ?_) (fun hf => ?_)
    · refine g_iconst Γ (pc := 14) (v := 0) dX7_outside_14 rfl ?_
      exact rZkr ret dX7_outside_15 (Or.inl rfl) hf
    · refine g_iconst Γ (pc := 10) (v := 1) dX7_outside_10 rfl ?_
      refine g_goto Γ (pc := 11) (tgt := 15) dX7_outside_11 rfl ?_
      exact rZkr ret dX7_outside_15 (Or.inr rfl) hf
def f_X7_person (a0 : Int32) (a1 : Int32) (a2 : Int32) (μ : Mem) : Option (Int32 × Mem) :=
  bn1 (f_X7_outside a0 0 5) fun v1 =>
  if v1 = 0 then
    bn1 (f_X7_outside a1 0 1) fun v2 =>
    if v2 = 0 then
      bn1 (f_X7_outside a2 0 99) fun v3 =>
      if v3 = 0 then
        if (μ 21 5) < 10 then
          bn1 (f_X6_join 21 a0 a1 a2 μ) fun m4 =>
          some (((m4 21 5) - 1), m4)
        else
          some ((-1000000003), μ)
      else
        some ((-1000000001), μ)
    else
      some ((-1000000001), μ)
  else
    some ((-1000000001), μ)
set_option maxRecDepth 100000 in
set_option maxHeartbeats 4000000 in
theorem c_X7_person {Y : SYS} (hC : IsC Y) {a0 : Int32} {a1 : Int32} {a2 : Int32} {μ : Mem} {x : Int32} {m : Mem} (hf : f_X7_person a0 a1 a2 μ = some (x, m)) : KC Y yX7_person cX7_person 4 (some .int) 1 [.ref (sq Y 0), .int a0, .int a1, .int a2] μ (some (.int x)) m := by
  refine KC.I RX7 [(0, .ref (sq Y 0)), (1, .int a0), (2, .int a1), (3, .int a2)] (by decide) rfl (Nat.le_of_ble_eq_true rfl) rfl (fun G Γ ret => ?_)
  unfold f_X7_person at hf
  refine g_iload_n Γ (pc := 0) 1 dX7_person_0 rfl rfl ?_
  refine g_iconst Γ (pc := 1) (v := 0) dX7_person_1 rfl ?_
  refine g_iconst Γ (pc := 2) (v := 5) dX7_person_2 rfl ?_
  obtain ⟨v1, h1, hf⟩ := bn1_i hf
  refine g_callSI Γ (pc := 3) (as := [.int a0, .int 0, .int 5]) (st := []) dX7_person_3 (c_X7_outside h1) mi_X7_outside ms_X7_outside kM_X7_71 rfl ⟨Nat.le_of_ble_eq_true rfl, Nat.le_of_ble_eq_true rfl⟩ rfl (Nat.le_of_ble_eq_true rfl) ?_
  refine g_if_ne Γ (pc := 6) (tgt := 28) dX7_person_6 rfl hf (fun hf => ?_) (fun hf => ?_)
  · refine g_ldc Γ (pc := 28) dX7_person_28 kK_X7_75 ?_
    exact rI ret dX7_person_30 hf
  · refine g_iload_n Γ (pc := 9) 2 dX7_person_9 rfl rfl ?_
    refine g_iconst Γ (pc := 10) (v := 0) dX7_person_10 rfl ?_
    refine g_iconst Γ (pc := 11) (v := 1) dX7_person_11 rfl ?_
    obtain ⟨v2, h1, hf⟩ := bn1_i hf
    refine g_callSI Γ (pc := 12) (as := [.int a1, .int 0, .int 1]) (st := []) dX7_person_12 (c_X7_outside h1) mi_X7_outside ms_X7_outside kM_X7_71 rfl ⟨Nat.le_of_ble_eq_true rfl, Nat.le_of_ble_eq_true rfl⟩ rfl (Nat.le_of_ble_eq_true rfl) ?_
    refine g_if_ne Γ (pc := 15) (tgt := 28) dX7_person_15 rfl hf (fun hf => ?_) (fun hf => ?_)
    · refine g_ldc Γ (pc := 28) dX7_person_28 kK_X7_75 ?_
      exact rI ret dX7_person_30 hf
    · refine g_iload_n Γ (pc := 18) 3 dX7_person_18 rfl rfl ?_
      refine g_iconst Γ (pc := 19) (v := 0) dX7_person_19 rfl ?_
      refine g_bipush Γ (pc := 20) (v := 99) dX7_person_20 rfl ?_
      obtain ⟨v3, h1, hf⟩ := bn1_i hf
      refine g_callSI Γ (pc := 22) (as := [.int a2, .int 0, .int 99]) (st := []) dX7_person_22 (c_X7_outside h1) mi_X7_outside ms_X7_outside kM_X7_71 rfl ⟨Nat.le_of_ble_eq_true rfl, Nat.le_of_ble_eq_true rfl⟩ rfl (Nat.le_of_ble_eq_true rfl) ?_
      refine g_if_eq Γ (pc := 25) (tgt := 31) dX7_person_25 rfl hf (fun hf => ?_) (fun hf => ?_)
      · refine g_aload_n Γ (pc := 31) 0 dX7_person_31 rfl rfl ?_
        refine g_get Γ (pc := 32) (v := .ref (sq Y 21)) dX7_person_32 (C_main hC) fr_X7_21 rfl ?_
        refine g_get Γ (pc := 35) (v := .int (μ 21 5)) dX7_person_35 (C_town hC (Or.inl rfl)) fr_X7_76 rfl ?_
        refine g_bipush Γ (pc := 38) (v := 10) dX7_person_38 rfl ?_
        refine g_icmp_lt Γ (pc := 40) (tgt := 46) dX7_person_40 rfl hf (fun hf => ?_) (fun hf => ?_)
        · refine g_aload_n Γ (pc := 46) 0 dX7_person_46 rfl rfl ?_
          refine g_get Γ (pc := 47) (v := .ref (sq Y 21)) dX7_person_47 (C_main hC) fr_X7_21 rfl ?_
          refine g_iload_n Γ (pc := 50) 1 dX7_person_50 rfl rfl ?_
          refine g_iload_n Γ (pc := 51) 2 dX7_person_51 rfl rfl ?_
          refine g_iload_n Γ (pc := 52) 3 dX7_person_52 rfl rfl ?_
          obtain ⟨m4, h1, hf⟩ := bn1_i hf
          refine g_callVV Γ (pc := 53) (as := [.int a0, .int a1, .int a2]) (st := []) dX7_person_53 (c_X6_join hC (Or.inl rfl) h1) (C_town hC (Or.inl rfl)) rfl mi_X6_join mv_X6_join kM_X7_80 rfl ⟨Nat.le_of_ble_eq_true rfl, Nat.le_of_ble_eq_true rfl⟩ rfl (Nat.le_of_ble_eq_true rfl) ?_
          refine g_aload_n Γ (pc := 56) 0 dX7_person_56 rfl rfl ?_
          refine g_get Γ (pc := 57) (v := .ref (sq Y 21)) dX7_person_57 (C_main hC) fr_X7_21 rfl ?_
          refine g_get Γ (pc := 60) (v := .int (m4 21 5)) dX7_person_60 (C_town hC (Or.inl rfl)) fr_X7_76 rfl ?_
          refine g_iconst Γ (pc := 63) (v := 1) dX7_person_63 rfl ?_
          refine g_isub Γ (pc := 64) dX7_person_64 ?_
          exact rI ret dX7_person_65 hf
        · refine g_ldc Γ (pc := 43) dX7_person_43 kK_X7_79 ?_
          exact rI ret dX7_person_45 hf
      · refine g_ldc Γ (pc := 28) dX7_person_28 kK_X7_75 ?_
        exact rI ret dX7_person_30 hf
def f_X7_isNobody (a0 : Int32) (μ : Mem) : Option (Int32) :=
  bn1 (f_X7_outside a0 0 ((μ 21 5) - 1)) fun v1 =>
  zM v1
set_option maxRecDepth 100000 in
set_option maxHeartbeats 4000000 in
theorem c_X7_isNobody {Y : SYS} (hC : IsC Y) {a0 : Int32} {μ : Mem} {x : Int32} (hf : f_X7_isNobody a0 μ = some x) : KC Y yX7_isNobody cX7_isNobody 2 (some .boolean) 1 [.ref (sq Y 0), .int a0] μ (some (.int x)) μ := by
  refine KC.Z RX7 [(0, .ref (sq Y 0)), (1, .int a0)] (by decide) rfl (Nat.le_of_ble_eq_true rfl) rfl (fun G Γ ret => ?_)
  unfold f_X7_isNobody at hf
  refine g_iload_n Γ (pc := 0) 1 dX7_isNobody_0 rfl rfl ?_
  refine g_iconst Γ (pc := 1) (v := 0) dX7_isNobody_1 rfl ?_
  refine g_aload_n Γ (pc := 2) 0 dX7_isNobody_2 rfl rfl ?_
  refine g_get Γ (pc := 3) (v := .ref (sq Y 21)) dX7_isNobody_3 (C_main hC) fr_X7_21 rfl ?_
  refine g_get Γ (pc := 6) (v := .int (μ 21 5)) dX7_isNobody_6 (C_town hC (Or.inl rfl)) fr_X7_76 rfl ?_
  refine g_iconst Γ (pc := 9) (v := 1) dX7_isNobody_9 rfl ?_
  refine g_isub Γ (pc := 10) dX7_isNobody_10 ?_
  obtain ⟨v1, h1, hf⟩ := bn1_i hf
  refine g_callSI Γ (pc := 11) (as := [.int a0, .int 0, .int ((μ 21 5) - 1)]) (st := []) dX7_isNobody_11 (c_X7_outside h1) mi_X7_outside ms_X7_outside kM_X7_71 rfl ⟨Nat.le_of_ble_eq_true rfl, Nat.le_of_ble_eq_true rfl⟩ rfl (Nat.le_of_ble_eq_true rfl) ?_
  exact rZr ret dX7_isNobody_14 hf
def f_X7_told (a0 : Int32) (a1 : Int32) (μ : Mem) : Option (Int32 × Mem) :=
  bn1 (f_X7_isNobody a0 μ) fun v1 =>
  if v1 = 0 then
    if a1 = 0 then
      bn1 (ldM (μ 22) 10 a0) fun v13 =>
      some (v13, μ)
    else
      if a1 = 1 then
        bn1 (f_X6_mindOf 21 a0 μ) fun v12 =>
        some (v12, μ)
      else
        if a1 = 2 then
          bn1 (ldM (μ 23) 10 a0) fun v11 =>
          some (v11, μ)
        else
          if a1 = 3 then
            bn1 (ldM (μ 24) 10 a0) fun v10 =>
            some (v10, μ)
          else
            if a1 = 4 then
              bn1 (ldM (μ 25) 10 a0) fun v9 =>
              some (v9, μ)
            else
              if a1 = 5 then
                bn1 (f_X6_offOf 21 a0 μ) fun v8 =>
                some (v8, μ)
              else
                if a1 = 6 then
                  bn2 (f_X6_owes 21 a0 μ) fun v6 m7 =>
                  some (v6, m7)
                else
                  if a1 = 7 then
                    bn1 (f_X6_asks 21 a0 μ) fun v5 =>
                    some (v5, μ)
                  else
                    if a1 = 8 then
                      bn1 (ldM (μ 22) 10 a0) fun v2 =>
                      bn1 (ldM (μ 23) 10 a0) fun v3 =>
                      bn1 (f_X1_worth v2 v3) fun v4 =>
                      some (v4, μ)
                    else
                      some ((-1000000001), μ)
  else
    some ((-1000000001), μ)
set_option maxRecDepth 100000 in
set_option maxHeartbeats 4000000 in
theorem c_X7_told {Y : SYS} (hC : IsC Y) {a0 : Int32} {a1 : Int32} {μ : Mem} {x : Int32} {m : Mem} (hf : f_X7_told a0 a1 μ = some (x, m)) : KC Y yX7_told cX7_told 3 (some .int) 5 [.ref (sq Y 0), .int a0, .int a1] μ (some (.int x)) m := by
  refine KC.I RX7 [(0, .ref (sq Y 0)), (1, .int a0), (2, .int a1)] (by decide) rfl (Nat.le_of_ble_eq_true rfl) rfl (fun G Γ ret => ?_)
  unfold f_X7_told at hf
  refine g_aload_n Γ (pc := 0) 0 dX7_told_0 rfl rfl ?_
  refine g_iload_n Γ (pc := 1) 1 dX7_told_1 rfl rfl ?_
  obtain ⟨v1, h1, hf⟩ := bn1_i hf
  refine g_callVI Γ (pc := 2) (as := [.int a0]) (st := []) dX7_told_2 (c_X7_isNobody hC h1) (C_main hC) rfl mi_X7_isNobody mv_X7_isNobody kM_X7_84 rfl ⟨Nat.le_of_ble_eq_true rfl, Nat.le_of_ble_eq_true rfl⟩ rfl (Nat.le_of_ble_eq_true rfl) ?_
  refine g_if_eq Γ (pc := 5) (tgt := 11) dX7_told_5 rfl hf (fun hf => ?_) (fun hf => ?_)
  · refine g_iload_n Γ (pc := 11) 2 dX7_told_11 rfl rfl ?_
    by_cases h12_0 : a1 = 0
    · replace hf := ite_t h12_0 hf
      refine g_tin Γ (pc := 12) (tgt := 64) 0 dX7_told_12 h12_0 (by decide) (by decide) rfl rfl ?_
      refine g_aload_n Γ (pc := 64) 0 dX7_told_64 rfl rfl ?_
      refine g_get Γ (pc := 65) (v := .ref (sq Y 21)) dX7_told_65 (C_main hC) fr_X7_21 rfl ?_
      refine g_get Γ (pc := 68) (v := .ref (sq Y 22)) dX7_told_68 (C_town hC (Or.inl rfl)) fr_X7_88 rfl ?_
      refine g_iload_n Γ (pc := 71) 1 dX7_told_71 rfl rfl ?_
      refine g_iald Γ (pc := 72) dX7_told_72 (C_town1 hC (Or.inl rfl)) hf (fun v13 hf => ?_)
      exact rI ret dX7_told_73 hf
    · replace hf := ite_f h12_0 hf
      by_cases h12_1 : a1 = 1
      · replace hf := ite_t h12_1 hf
        refine g_tin Γ (pc := 12) (tgt := 74) 1 dX7_told_12 h12_1 (by decide) (by decide) rfl rfl ?_
        refine g_aload_n Γ (pc := 74) 0 dX7_told_74 rfl rfl ?_
        refine g_get Γ (pc := 75) (v := .ref (sq Y 21)) dX7_told_75 (C_main hC) fr_X7_21 rfl ?_
        refine g_iload_n Γ (pc := 78) 1 dX7_told_78 rfl rfl ?_
        obtain ⟨v12, h1, hf⟩ := bn1_i hf
        refine g_callVI Γ (pc := 79) (as := [.int a0]) (st := []) dX7_told_79 (c_X6_mindOf hC (Or.inl rfl) h1) (C_town hC (Or.inl rfl)) rfl mi_X6_mindOf mv_X6_mindOf kM_X7_91 rfl ⟨Nat.le_of_ble_eq_true rfl, Nat.le_of_ble_eq_true rfl⟩ rfl (Nat.le_of_ble_eq_true rfl) ?_
        exact rI ret dX7_told_82 hf
      · replace hf := ite_f h12_1 hf
        by_cases h12_2 : a1 = 2
        · replace hf := ite_t h12_2 hf
          refine g_tin Γ (pc := 12) (tgt := 83) 2 dX7_told_12 h12_2 (by decide) (by decide) rfl rfl ?_
          refine g_aload_n Γ (pc := 83) 0 dX7_told_83 rfl rfl ?_
          refine g_get Γ (pc := 84) (v := .ref (sq Y 21)) dX7_told_84 (C_main hC) fr_X7_21 rfl ?_
          refine g_get Γ (pc := 87) (v := .ref (sq Y 23)) dX7_told_87 (C_town hC (Or.inl rfl)) fr_X7_95 rfl ?_
          refine g_iload_n Γ (pc := 90) 1 dX7_told_90 rfl rfl ?_
          refine g_iald Γ (pc := 91) dX7_told_91 (C_town2 hC (Or.inl rfl)) hf (fun v11 hf => ?_)
          exact rI ret dX7_told_92 hf
        · replace hf := ite_f h12_2 hf
          by_cases h12_3 : a1 = 3
          · replace hf := ite_t h12_3 hf
            refine g_tin Γ (pc := 12) (tgt := 93) 3 dX7_told_12 h12_3 (by decide) (by decide) rfl rfl ?_
            refine g_aload_n Γ (pc := 93) 0 dX7_told_93 rfl rfl ?_
            refine g_get Γ (pc := 94) (v := .ref (sq Y 21)) dX7_told_94 (C_main hC) fr_X7_21 rfl ?_
            refine g_get Γ (pc := 97) (v := .ref (sq Y 24)) dX7_told_97 (C_town hC (Or.inl rfl)) fr_X7_98 rfl ?_
            refine g_iload_n Γ (pc := 100) 1 dX7_told_100 rfl rfl ?_
            refine g_iald Γ (pc := 101) dX7_told_101 (C_town3 hC (Or.inl rfl)) hf (fun v10 hf => ?_)
            exact rI ret dX7_told_102 hf
          · replace hf := ite_f h12_3 hf
            by_cases h12_4 : a1 = 4
            · replace hf := ite_t h12_4 hf
              refine g_tin Γ (pc := 12) (tgt := 103) 4 dX7_told_12 h12_4 (by decide) (by decide) rfl rfl ?_
              refine g_aload_n Γ (pc := 103) 0 dX7_told_103 rfl rfl ?_
              refine g_get Γ (pc := 104) (v := .ref (sq Y 21)) dX7_told_104 (C_main hC) fr_X7_21 rfl ?_
              refine g_get Γ (pc := 107) (v := .ref (sq Y 25)) dX7_told_107 (C_town hC (Or.inl rfl)) fr_X7_101 rfl ?_
              refine g_iload_n Γ (pc := 110) 1 dX7_told_110 rfl rfl ?_
              refine g_iald Γ (pc := 111) dX7_told_111 (C_town4 hC (Or.inl rfl)) hf (fun v9 hf => ?_)
              exact rI ret dX7_told_112 hf
            · replace hf := ite_f h12_4 hf
              by_cases h12_5 : a1 = 5
              · replace hf := ite_t h12_5 hf
                refine g_tin Γ (pc := 12) (tgt := 113) 5 dX7_told_12 h12_5 (by decide) (by decide) rfl rfl ?_
                refine g_aload_n Γ (pc := 113) 0 dX7_told_113 rfl rfl ?_
                refine g_get Γ (pc := 114) (v := .ref (sq Y 21)) dX7_told_114 (C_main hC) fr_X7_21 rfl ?_
                refine g_iload_n Γ (pc := 117) 1 dX7_told_117 rfl rfl ?_
                obtain ⟨v8, h1, hf⟩ := bn1_i hf
                refine g_callVI Γ (pc := 118) (as := [.int a0]) (st := []) dX7_told_118 (c_X6_offOf hC (Or.inl rfl) h1) (C_town hC (Or.inl rfl)) rfl mi_X6_offOf mv_X6_offOf kM_X7_104 rfl ⟨Nat.le_of_ble_eq_true rfl, Nat.le_of_ble_eq_true rfl⟩ rfl (Nat.le_of_ble_eq_true rfl) ?_
                exact rI ret dX7_told_121 hf
              · replace hf := ite_f h12_5 hf
                by_cases h12_6 : a1 = 6
                · replace hf := ite_t h12_6 hf
                  refine g_tin Γ (pc := 12) (tgt := 122) 6 dX7_told_12 h12_6 (by decide) (by decide) rfl rfl ?_
                  refine g_aload_n Γ (pc := 122) 0 dX7_told_122 rfl rfl ?_
                  refine g_get Γ (pc := 123) (v := .ref (sq Y 21)) dX7_told_123 (C_main hC) fr_X7_21 rfl ?_
                  refine g_iload_n Γ (pc := 126) 1 dX7_told_126 rfl rfl ?_
                  obtain ⟨v6, m7, h1, hf⟩ := bn2_i hf
                  refine g_callVI Γ (pc := 127) (as := [.int a0]) (st := []) dX7_told_127 (c_X6_owes hC (Or.inl rfl) h1) (C_town hC (Or.inl rfl)) rfl mi_X6_owes mv_X6_owes kM_X7_107 rfl ⟨Nat.le_of_ble_eq_true rfl, Nat.le_of_ble_eq_true rfl⟩ rfl (Nat.le_of_ble_eq_true rfl) ?_
                  exact rI ret dX7_told_130 hf
                · replace hf := ite_f h12_6 hf
                  by_cases h12_7 : a1 = 7
                  · replace hf := ite_t h12_7 hf
                    refine g_tin Γ (pc := 12) (tgt := 131) 7 dX7_told_12 h12_7 (by decide) (by decide) rfl rfl ?_
                    refine g_aload_n Γ (pc := 131) 0 dX7_told_131 rfl rfl ?_
                    refine g_get Γ (pc := 132) (v := .ref (sq Y 21)) dX7_told_132 (C_main hC) fr_X7_21 rfl ?_
                    refine g_iload_n Γ (pc := 135) 1 dX7_told_135 rfl rfl ?_
                    obtain ⟨v5, h1, hf⟩ := bn1_i hf
                    refine g_callVI Γ (pc := 136) (as := [.int a0]) (st := []) dX7_told_136 (c_X6_asks hC (Or.inl rfl) h1) (C_town hC (Or.inl rfl)) rfl mi_X6_asks mv_X6_asks kM_X7_110 rfl ⟨Nat.le_of_ble_eq_true rfl, Nat.le_of_ble_eq_true rfl⟩ rfl (Nat.le_of_ble_eq_true rfl) ?_
                    exact rI ret dX7_told_139 hf
                  · replace hf := ite_f h12_7 hf
                    by_cases h12_8 : a1 = 8
                    · replace hf := ite_t h12_8 hf
                      refine g_tin Γ (pc := 12) (tgt := 140) 8 dX7_told_12 h12_8 (by decide) (by decide) rfl rfl ?_
                      refine g_aload_n Γ (pc := 140) 0 dX7_told_140 rfl rfl ?_
                      refine g_get Γ (pc := 141) (v := .ref (sq Y 21)) dX7_told_141 (C_main hC) fr_X7_21 rfl ?_
                      refine g_get Γ (pc := 144) (v := .ref (sq Y 22)) dX7_told_144 (C_town hC (Or.inl rfl)) fr_X7_88 rfl ?_
                      refine g_iload_n Γ (pc := 147) 1 dX7_told_147 rfl rfl ?_
                      refine g_iald Γ (pc := 148) dX7_told_148 (C_town1 hC (Or.inl rfl)) hf (fun v2 hf => ?_)
                      refine g_aload_n Γ (pc := 149) 0 dX7_told_149 rfl rfl ?_
                      refine g_get Γ (pc := 150) (v := .ref (sq Y 21)) dX7_told_150 (C_main hC) fr_X7_21 rfl ?_
                      refine g_get Γ (pc := 153) (v := .ref (sq Y 23)) dX7_told_153 (C_town hC (Or.inl rfl)) fr_X7_95 rfl ?_
                      refine g_iload_n Γ (pc := 156) 1 dX7_told_156 rfl rfl ?_
                      refine g_iald Γ (pc := 157) dX7_told_157 (C_town2 hC (Or.inl rfl)) hf (fun v3 hf => ?_)
                      obtain ⟨v4, h1, hf⟩ := bn1_i hf
                      refine g_callSI Γ (pc := 158) (as := [.int v2, .int v3]) (st := []) dX7_told_158 (c_X1_worth h1) mi_X1_worth ms_X1_worth kM_X7_113 rfl ⟨Nat.le_of_ble_eq_true rfl, Nat.le_of_ble_eq_true rfl⟩ rfl (Nat.le_of_ble_eq_true rfl) ?_
                      exact rI ret dX7_told_161 hf
                    · replace hf := ite_f h12_8 hf
                      refine g_tableOut Γ (pc := 12) (tgt := 162) dX7_told_12 (by have e0 := ne_ti (k := 0) rfl h12_0; have e1 := ne_ti (k := 1) rfl h12_1; have e2 := ne_ti (k := 2) rfl h12_2; have e3 := ne_ti (k := 3) rfl h12_3; have e4 := ne_ti (k := 4) rfl h12_4; have e5 := ne_ti (k := 5) rfl h12_5; have e6 := ne_ti (k := 6) rfl h12_6; have e7 := ne_ti (k := 7) rfl h12_7; have e8 := ne_ti (k := 8) rfl h12_8; omega) rfl ?_
                      refine g_ldc Γ (pc := 162) dX7_told_162 kK_X7_75 ?_
                      exact rI ret dX7_told_164 hf
  · refine g_ldc Γ (pc := 8) dX7_told_8 kK_X7_75 ?_
    exact rI ret dX7_told_10 hf
def f_X7_as (a0 : Int32) (a1 : Int32) (μ : Mem) : Option (Int32) :=
  bn1 (f_X7_isNobody a0 μ) fun v1 =>
  if v1 = 0 then
    bn1 (f_X7_outside a1 0 5) fun v2 =>
    if v2 = 0 then
      bn1 (ldM (μ 22) 10 a0) fun v3 =>
      bn1 (f_X1_isOf v3 a1 μ) fun v4 =>
      if v4 = 0 then
        some (-1000000012)
      else
        bn1 (ldM (μ 23) 10 a0) fun v5 =>
        some v5
    else
      some (-1000000001)
  else
    some (-1000000001)
set_option maxRecDepth 100000 in
set_option maxHeartbeats 4000000 in
theorem c_X7_as {Y : SYS} (hC : IsC Y) (hY : HasX Y) {a0 : Int32} {a1 : Int32} {μ : Mem} {x : Int32} (hf : f_X7_as a0 a1 μ = some x) : KC Y yX7_as cX7_as 3 (some .int) 2 [.ref (sq Y 0), .int a0, .int a1] μ (some (.int x)) μ := by
  refine KC.I RX7 [(0, .ref (sq Y 0)), (1, .int a0), (2, .int a1)] (by decide) rfl (Nat.le_of_ble_eq_true rfl) rfl (fun G Γ ret => ?_)
  unfold f_X7_as at hf
  refine g_aload_n Γ (pc := 0) 0 dX7_as_0 rfl rfl ?_
  refine g_iload_n Γ (pc := 1) 1 dX7_as_1 rfl rfl ?_
  obtain ⟨v1, h1, hf⟩ := bn1_i hf
  refine g_callVI Γ (pc := 2) (as := [.int a0]) (st := []) dX7_as_2 (c_X7_isNobody hC h1) (C_main hC) rfl mi_X7_isNobody mv_X7_isNobody kM_X7_84 rfl ⟨Nat.le_of_ble_eq_true rfl, Nat.le_of_ble_eq_true rfl⟩ rfl (Nat.le_of_ble_eq_true rfl) ?_
  refine g_if_ne Γ (pc := 5) (tgt := 17) dX7_as_5 rfl hf (fun hf => ?_) (fun hf => ?_)
  · refine g_ldc Γ (pc := 17) dX7_as_17 kK_X7_75 ?_
    exact rIr ret dX7_as_19 hf
  · refine g_iload_n Γ (pc := 8) 2 dX7_as_8 rfl rfl ?_
    refine g_iconst Γ (pc := 9) (v := 0) dX7_as_9 rfl ?_
    refine g_iconst Γ (pc := 10) (v := 5) dX7_as_10 rfl ?_
    obtain ⟨v2, h1, hf⟩ := bn1_i hf
    refine g_callSI Γ (pc := 11) (as := [.int a1, .int 0, .int 5]) (st := []) dX7_as_11 (c_X7_outside h1) mi_X7_outside ms_X7_outside kM_X7_71 rfl ⟨Nat.le_of_ble_eq_true rfl, Nat.le_of_ble_eq_true rfl⟩ rfl (Nat.le_of_ble_eq_true rfl) ?_
    refine g_if_eq Γ (pc := 14) (tgt := 20) dX7_as_14 rfl hf (fun hf => ?_) (fun hf => ?_)
    · refine g_aload_n Γ (pc := 20) 0 dX7_as_20 rfl rfl ?_
      refine g_get Γ (pc := 21) (v := .ref (sq Y 21)) dX7_as_21 (C_main hC) fr_X7_21 rfl ?_
      refine g_get Γ (pc := 24) (v := .ref (sq Y 22)) dX7_as_24 (C_town hC (Or.inl rfl)) fr_X7_88 rfl ?_
      refine g_iload_n Γ (pc := 27) 1 dX7_as_27 rfl rfl ?_
      refine g_iald Γ (pc := 28) dX7_as_28 (C_town1 hC (Or.inl rfl)) hf (fun v3 hf => ?_)
      refine g_iload_n Γ (pc := 29) 2 dX7_as_29 rfl rfl ?_
      obtain ⟨v4, h1, hf⟩ := bn1_i hf
      refine g_callSI Γ (pc := 30) (as := [.int v3, .int a1]) (st := []) dX7_as_30 (c_X1_isOf hC hY h1) mi_X1_isOf ms_X1_isOf kM_X7_119 rfl ⟨Nat.le_of_ble_eq_true rfl, Nat.le_of_ble_eq_true rfl⟩ rfl (Nat.le_of_ble_eq_true rfl) ?_
      refine g_if_eq Γ (pc := 33) (tgt := 48) dX7_as_33 rfl hf (fun hf => ?_) (fun hf => ?_)
      · refine g_ldc Γ (pc := 48) dX7_as_48 kK_X7_123 ?_
        exact rIr ret dX7_as_50 hf
      · refine g_aload_n Γ (pc := 36) 0 dX7_as_36 rfl rfl ?_
        refine g_get Γ (pc := 37) (v := .ref (sq Y 21)) dX7_as_37 (C_main hC) fr_X7_21 rfl ?_
        refine g_get Γ (pc := 40) (v := .ref (sq Y 23)) dX7_as_40 (C_town hC (Or.inl rfl)) fr_X7_95 rfl ?_
        refine g_iload_n Γ (pc := 43) 1 dX7_as_43 rfl rfl ?_
        refine g_iald Γ (pc := 44) dX7_as_44 (C_town2 hC (Or.inl rfl)) hf (fun v5 hf => ?_)
        refine g_goto Γ (pc := 45) (tgt := 50) dX7_as_45 rfl ?_
        exact rIr ret dX7_as_50 hf
    · refine g_ldc Γ (pc := 17) dX7_as_17 kK_X7_75 ?_
      exact rIr ret dX7_as_19 hf
def f_X7_turns (a0 : Int32) (a1 : Int32) (μ : Mem) : Option (Int32 × Mem) :=
  bn1 (f_X7_isNobody a0 μ) fun v1 =>
  if v1 = 0 then
    bn1 (f_X7_outside a1 0 5) fun v2 =>
    if v2 = 0 then
      bn1 (ldM (μ 22) 10 a0) fun v3 =>
      bn1 (stM μ 22 10 a0 a1) fun m4 =>
      some (v3, m4)
    else
      some ((-1000000001), μ)
  else
    some ((-1000000001), μ)
set_option maxRecDepth 100000 in
set_option maxHeartbeats 4000000 in
theorem c_X7_turns {Y : SYS} (hC : IsC Y) {a0 : Int32} {a1 : Int32} {μ : Mem} {x : Int32} {m : Mem} (hf : f_X7_turns a0 a1 μ = some (x, m)) : KC Y yX7_turns cX7_turns 4 (some .int) 2 [.ref (sq Y 0), .int a0, .int a1] μ (some (.int x)) m := by
  refine KC.I RX7 [(0, .ref (sq Y 0)), (1, .int a0), (2, .int a1)] (by decide) rfl (Nat.le_of_ble_eq_true rfl) rfl (fun G Γ ret => ?_)
  unfold f_X7_turns at hf
  refine g_aload_n Γ (pc := 0) 0 dX7_turns_0 rfl rfl ?_
  refine g_iload_n Γ (pc := 1) 1 dX7_turns_1 rfl rfl ?_
  obtain ⟨v1, h1, hf⟩ := bn1_i hf
  refine g_callVI Γ (pc := 2) (as := [.int a0]) (st := []) dX7_turns_2 (c_X7_isNobody hC h1) (C_main hC) rfl mi_X7_isNobody mv_X7_isNobody kM_X7_84 rfl ⟨Nat.le_of_ble_eq_true rfl, Nat.le_of_ble_eq_true rfl⟩ rfl (Nat.le_of_ble_eq_true rfl) ?_
  refine g_if_ne Γ (pc := 5) (tgt := 17) dX7_turns_5 rfl hf (fun hf => ?_) (fun hf => ?_)
  · refine g_ldc Γ (pc := 17) dX7_turns_17 kK_X7_75 ?_
    exact rI ret dX7_turns_19 hf
  · refine g_iload_n Γ (pc := 8) 2 dX7_turns_8 rfl rfl ?_
    refine g_iconst Γ (pc := 9) (v := 0) dX7_turns_9 rfl ?_
    refine g_iconst Γ (pc := 10) (v := 5) dX7_turns_10 rfl ?_
    obtain ⟨v2, h1, hf⟩ := bn1_i hf
    refine g_callSI Γ (pc := 11) (as := [.int a1, .int 0, .int 5]) (st := []) dX7_turns_11 (c_X7_outside h1) mi_X7_outside ms_X7_outside kM_X7_71 rfl ⟨Nat.le_of_ble_eq_true rfl, Nat.le_of_ble_eq_true rfl⟩ rfl (Nat.le_of_ble_eq_true rfl) ?_
    refine g_if_eq Γ (pc := 14) (tgt := 20) dX7_turns_14 rfl hf (fun hf => ?_) (fun hf => ?_)
    · refine g_aload_n Γ (pc := 20) 0 dX7_turns_20 rfl rfl ?_
      refine g_get Γ (pc := 21) (v := .ref (sq Y 21)) dX7_turns_21 (C_main hC) fr_X7_21 rfl ?_
      refine g_get Γ (pc := 24) (v := .ref (sq Y 22)) dX7_turns_24 (C_town hC (Or.inl rfl)) fr_X7_88 rfl ?_
      refine g_iload_n Γ (pc := 27) 1 dX7_turns_27 rfl rfl ?_
      refine g_iald Γ (pc := 28) dX7_turns_28 (C_town1 hC (Or.inl rfl)) hf (fun v3 hf => ?_)
      refine g_istore_n Γ (pc := 29) (lv' := [(3, .int v3), (0, .ref (sq Y 0)), (1, .int a0), (2, .int a1)]) dX7_turns_29 rfl (by decide) rfl ?_
      refine g_aload_n Γ (pc := 30) 1 dX7_turns_30 rfl rfl ?_
      refine g_get Γ (pc := 31) (v := .ref (sq Y 21)) dX7_turns_31 (C_main hC) fr_X7_21 rfl ?_
      refine g_get Γ (pc := 34) (v := .ref (sq Y 22)) dX7_turns_34 (C_town hC (Or.inl rfl)) fr_X7_88 rfl ?_
      refine g_iload_n Γ (pc := 37) 2 dX7_turns_37 rfl rfl ?_
      refine g_iload_n Γ (pc := 38) 3 dX7_turns_38 rfl rfl ?_
      refine g_iast Γ (pc := 39) dX7_turns_39 (C_town1 hC (Or.inl rfl)) hf (fun m4 hf => ?_)
      refine g_iload_n Γ (pc := 40) 0 dX7_turns_40 rfl rfl ?_
      exact rI ret dX7_turns_41 hf
    · refine g_ldc Γ (pc := 17) dX7_turns_17 kK_X7_75 ?_
      exact rI ret dX7_turns_19 hf
def f_X7_setMind (a0 : Int32) (a1 : Int32) (μ : Mem) : Option (Int32 × Mem) :=
  bn1 (f_X7_outside a1 0 1) fun v1 =>
  if v1 = 0 then
    bn1 (f_X6_mindOf 21 a0 μ) fun v2 =>
    if v2 = a1 then
      some (v2, μ)
    else
      bn1 (f_X6_flip 21 a0 μ) fun m3 =>
      some (v2, m3)
  else
    some ((-1000000001), μ)
set_option maxRecDepth 100000 in
set_option maxHeartbeats 4000000 in
theorem c_X7_setMind {Y : SYS} (hC : IsC Y) {a0 : Int32} {a1 : Int32} {μ : Mem} {x : Int32} {m : Mem} (hf : f_X7_setMind a0 a1 μ = some (x, m)) : KC Y yX7_setMind cX7_setMind 4 (some .int) 1 [.ref (sq Y 0), .int a0, .int a1] μ (some (.int x)) m := by
  refine KC.I RX7 [(0, .ref (sq Y 0)), (1, .int a0), (2, .int a1)] (by decide) rfl (Nat.le_of_ble_eq_true rfl) rfl (fun G Γ ret => ?_)
  unfold f_X7_setMind at hf
  refine g_iload_n Γ (pc := 0) 2 dX7_setMind_0 rfl rfl ?_
  refine g_iconst Γ (pc := 1) (v := 0) dX7_setMind_1 rfl ?_
  refine g_iconst Γ (pc := 2) (v := 1) dX7_setMind_2 rfl ?_
  obtain ⟨v1, h1, hf⟩ := bn1_i hf
  refine g_callSI Γ (pc := 3) (as := [.int a1, .int 0, .int 1]) (st := []) dX7_setMind_3 (c_X7_outside h1) mi_X7_outside ms_X7_outside kM_X7_71 rfl ⟨Nat.le_of_ble_eq_true rfl, Nat.le_of_ble_eq_true rfl⟩ rfl (Nat.le_of_ble_eq_true rfl) ?_
  refine g_if_eq Γ (pc := 6) (tgt := 12) dX7_setMind_6 rfl hf (fun hf => ?_) (fun hf => ?_)
  · refine g_aload_n Γ (pc := 12) 0 dX7_setMind_12 rfl rfl ?_
    refine g_get Γ (pc := 13) (v := .ref (sq Y 21)) dX7_setMind_13 (C_main hC) fr_X7_21 rfl ?_
    refine g_iload_n Γ (pc := 16) 1 dX7_setMind_16 rfl rfl ?_
    obtain ⟨v2, h1, hf⟩ := bn1_i hf
    refine g_callVI Γ (pc := 17) (as := [.int a0]) (st := []) dX7_setMind_17 (c_X6_mindOf hC (Or.inl rfl) h1) (C_town hC (Or.inl rfl)) rfl mi_X6_mindOf mv_X6_mindOf kM_X7_91 rfl ⟨Nat.le_of_ble_eq_true rfl, Nat.le_of_ble_eq_true rfl⟩ rfl (Nat.le_of_ble_eq_true rfl) ?_
    refine g_istore_n Γ (pc := 20) (lv' := [(3, .int v2), (0, .ref (sq Y 0)), (1, .int a0), (2, .int a1)]) dX7_setMind_20 rfl (by decide) rfl ?_
    refine g_iload_n Γ (pc := 21) 0 dX7_setMind_21 rfl rfl ?_
    refine g_iload_n Γ (pc := 22) 3 dX7_setMind_22 rfl rfl ?_
    refine g_icmp_eq Γ (pc := 23) (tgt := 34) dX7_setMind_23 rfl hf (fun hf => ?_) (fun hf => ?_)
    · refine g_iload_n Γ (pc := 34) 0 dX7_setMind_34 rfl rfl ?_
      exact rI ret dX7_setMind_35 hf
    · refine g_aload_n Γ (pc := 26) 1 dX7_setMind_26 rfl rfl ?_
      refine g_get Γ (pc := 27) (v := .ref (sq Y 21)) dX7_setMind_27 (C_main hC) fr_X7_21 rfl ?_
      refine g_iload_n Γ (pc := 30) 2 dX7_setMind_30 rfl rfl ?_
      obtain ⟨m3, h1, hf⟩ := bn1_i hf
      refine g_callVV Γ (pc := 31) (as := [.int a0]) (st := []) dX7_setMind_31 (c_X6_flip hC (Or.inl rfl) h1) (C_town hC (Or.inl rfl)) rfl mi_X6_flip mv_X6_flip kM_X7_133 rfl ⟨Nat.le_of_ble_eq_true rfl, Nat.le_of_ble_eq_true rfl⟩ rfl (Nat.le_of_ble_eq_true rfl) ?_
      refine g_iload_n Γ (pc := 34) 0 dX7_setMind_34 rfl rfl ?_
      exact rI ret dX7_setMind_35 hf
  · refine g_ldc Γ (pc := 9) dX7_setMind_9 kK_X7_75 ?_
    exact rI ret dX7_setMind_11 hf
def f_X7_setPrice (a0 : Int32) (a1 : Int32) (μ : Mem) : Option (Int32 × Mem) :=
  bn1 (f_X7_outside a1 0 99) fun v1 =>
  if v1 = 0 then
    bn1 (ldM (μ 23) 10 a0) fun v2 =>
    bn1 (stM μ 23 10 a0 a1) fun m3 =>
    some (v2, m3)
  else
    some ((-1000000001), μ)
set_option maxRecDepth 100000 in
set_option maxHeartbeats 4000000 in
theorem c_X7_setPrice {Y : SYS} (hC : IsC Y) {a0 : Int32} {a1 : Int32} {μ : Mem} {x : Int32} {m : Mem} (hf : f_X7_setPrice a0 a1 μ = some (x, m)) : KC Y yX7_setPrice cX7_setPrice 4 (some .int) 1 [.ref (sq Y 0), .int a0, .int a1] μ (some (.int x)) m := by
  refine KC.I RX7 [(0, .ref (sq Y 0)), (1, .int a0), (2, .int a1)] (by decide) rfl (Nat.le_of_ble_eq_true rfl) rfl (fun G Γ ret => ?_)
  unfold f_X7_setPrice at hf
  refine g_iload_n Γ (pc := 0) 2 dX7_setPrice_0 rfl rfl ?_
  refine g_iconst Γ (pc := 1) (v := 0) dX7_setPrice_1 rfl ?_
  refine g_bipush Γ (pc := 2) (v := 99) dX7_setPrice_2 rfl ?_
  obtain ⟨v1, h1, hf⟩ := bn1_i hf
  refine g_callSI Γ (pc := 4) (as := [.int a1, .int 0, .int 99]) (st := []) dX7_setPrice_4 (c_X7_outside h1) mi_X7_outside ms_X7_outside kM_X7_71 rfl ⟨Nat.le_of_ble_eq_true rfl, Nat.le_of_ble_eq_true rfl⟩ rfl (Nat.le_of_ble_eq_true rfl) ?_
  refine g_if_eq Γ (pc := 7) (tgt := 13) dX7_setPrice_7 rfl hf (fun hf => ?_) (fun hf => ?_)
  · refine g_aload_n Γ (pc := 13) 0 dX7_setPrice_13 rfl rfl ?_
    refine g_get Γ (pc := 14) (v := .ref (sq Y 21)) dX7_setPrice_14 (C_main hC) fr_X7_21 rfl ?_
    refine g_get Γ (pc := 17) (v := .ref (sq Y 23)) dX7_setPrice_17 (C_town hC (Or.inl rfl)) fr_X7_95 rfl ?_
    refine g_iload_n Γ (pc := 20) 1 dX7_setPrice_20 rfl rfl ?_
    refine g_iald Γ (pc := 21) dX7_setPrice_21 (C_town2 hC (Or.inl rfl)) hf (fun v2 hf => ?_)
    refine g_istore_n Γ (pc := 22) (lv' := [(3, .int v2), (0, .ref (sq Y 0)), (1, .int a0), (2, .int a1)]) dX7_setPrice_22 rfl (by decide) rfl ?_
    refine g_aload_n Γ (pc := 23) 1 dX7_setPrice_23 rfl rfl ?_
    refine g_get Γ (pc := 24) (v := .ref (sq Y 21)) dX7_setPrice_24 (C_main hC) fr_X7_21 rfl ?_
    refine g_get Γ (pc := 27) (v := .ref (sq Y 23)) dX7_setPrice_27 (C_town hC (Or.inl rfl)) fr_X7_95 rfl ?_
    refine g_iload_n Γ (pc := 30) 2 dX7_setPrice_30 rfl rfl ?_
    refine g_iload_n Γ (pc := 31) 3 dX7_setPrice_31 rfl rfl ?_
    refine g_iast Γ (pc := 32) dX7_setPrice_32 (C_town2 hC (Or.inl rfl)) hf (fun m3 hf => ?_)
    refine g_iload_n Γ (pc := 33) 0 dX7_setPrice_33 rfl rfl ?_
    exact rI ret dX7_setPrice_34 hf
  · refine g_ldc Γ (pc := 10) dX7_setPrice_10 kK_X7_75 ?_
    exact rI ret dX7_setPrice_12 hf
def f_X7_setPurse (a0 : Int32) (a1 : Int32) (μ : Mem) : Option (Int32 × Mem) :=
  bn1 (f_X7_outside a1 (-9999) 9999) fun v1 =>
  if v1 = 0 then
    bn1 (ldM (μ 24) 10 a0) fun v2 =>
    bn1 (stM μ 24 10 a0 a1) fun m3 =>
    some (v2, m3)
  else
    some ((-1000000001), μ)
set_option maxRecDepth 100000 in
set_option maxHeartbeats 4000000 in
theorem c_X7_setPurse {Y : SYS} (hC : IsC Y) {a0 : Int32} {a1 : Int32} {μ : Mem} {x : Int32} {m : Mem} (hf : f_X7_setPurse a0 a1 μ = some (x, m)) : KC Y yX7_setPurse cX7_setPurse 4 (some .int) 1 [.ref (sq Y 0), .int a0, .int a1] μ (some (.int x)) m := by
  refine KC.I RX7 [(0, .ref (sq Y 0)), (1, .int a0), (2, .int a1)] (by decide) rfl (Nat.le_of_ble_eq_true rfl) rfl (fun G Γ ret => ?_)
  unfold f_X7_setPurse at hf
  refine g_iload_n Γ (pc := 0) 2 dX7_setPurse_0 rfl rfl ?_
  refine g_sipush Γ (pc := 1) (v := (-9999)) dX7_setPurse_1 rfl ?_
  refine g_sipush Γ (pc := 4) (v := 9999) dX7_setPurse_4 rfl ?_
  obtain ⟨v1, h1, hf⟩ := bn1_i hf
  refine g_callSI Γ (pc := 7) (as := [.int a1, .int (-9999), .int 9999]) (st := []) dX7_setPurse_7 (c_X7_outside h1) mi_X7_outside ms_X7_outside kM_X7_71 rfl ⟨Nat.le_of_ble_eq_true rfl, Nat.le_of_ble_eq_true rfl⟩ rfl (Nat.le_of_ble_eq_true rfl) ?_
  refine g_if_eq Γ (pc := 10) (tgt := 16) dX7_setPurse_10 rfl hf (fun hf => ?_) (fun hf => ?_)
  · refine g_aload_n Γ (pc := 16) 0 dX7_setPurse_16 rfl rfl ?_
    refine g_get Γ (pc := 17) (v := .ref (sq Y 21)) dX7_setPurse_17 (C_main hC) fr_X7_21 rfl ?_
    refine g_get Γ (pc := 20) (v := .ref (sq Y 24)) dX7_setPurse_20 (C_town hC (Or.inl rfl)) fr_X7_98 rfl ?_
    refine g_iload_n Γ (pc := 23) 1 dX7_setPurse_23 rfl rfl ?_
    refine g_iald Γ (pc := 24) dX7_setPurse_24 (C_town3 hC (Or.inl rfl)) hf (fun v2 hf => ?_)
    refine g_istore_n Γ (pc := 25) (lv' := [(3, .int v2), (0, .ref (sq Y 0)), (1, .int a0), (2, .int a1)]) dX7_setPurse_25 rfl (by decide) rfl ?_
    refine g_aload_n Γ (pc := 26) 1 dX7_setPurse_26 rfl rfl ?_
    refine g_get Γ (pc := 27) (v := .ref (sq Y 21)) dX7_setPurse_27 (C_main hC) fr_X7_21 rfl ?_
    refine g_get Γ (pc := 30) (v := .ref (sq Y 24)) dX7_setPurse_30 (C_town hC (Or.inl rfl)) fr_X7_98 rfl ?_
    refine g_iload_n Γ (pc := 33) 2 dX7_setPurse_33 rfl rfl ?_
    refine g_iload_n Γ (pc := 34) 3 dX7_setPurse_34 rfl rfl ?_
    refine g_iast Γ (pc := 35) dX7_setPurse_35 (C_town3 hC (Or.inl rfl)) hf (fun m3 hf => ?_)
    refine g_iload_n Γ (pc := 36) 0 dX7_setPurse_36 rfl rfl ?_
    exact rI ret dX7_setPurse_37 hf
  · refine g_ldc Γ (pc := 13) dX7_setPurse_13 kK_X7_75 ?_
    exact rI ret dX7_setPurse_15 hf
def f_X7_set (a0 : Int32) (a1 : Int32) (a2 : Int32) (μ : Mem) : Option (Int32 × Mem) :=
  bn1 (f_X7_isNobody a0 μ) fun v1 =>
  if v1 = 0 then
    if a1 = 1 then
      bn2 (f_X7_setMind a0 a2 μ) fun v6 m7 =>
      some (v6, m7)
    else
      if a1 = 2 then
        bn2 (f_X7_setPrice a0 a2 μ) fun v4 m5 =>
        some (v4, m5)
      else
        if a1 = 3 then
          bn2 (f_X7_setPurse a0 a2 μ) fun v2 m3 =>
          some (v2, m3)
        else
          some ((-1000000001), μ)
  else
    some ((-1000000001), μ)
set_option maxRecDepth 100000 in
set_option maxHeartbeats 4000000 in
theorem c_X7_set {Y : SYS} (hC : IsC Y) {a0 : Int32} {a1 : Int32} {a2 : Int32} {μ : Mem} {x : Int32} {m : Mem} (hf : f_X7_set a0 a1 a2 μ = some (x, m)) : KC Y yX7_set cX7_set 4 (some .int) 2 [.ref (sq Y 0), .int a0, .int a1, .int a2] μ (some (.int x)) m := by
  refine KC.I RX7 [(0, .ref (sq Y 0)), (1, .int a0), (2, .int a1), (3, .int a2)] (by decide) rfl (Nat.le_of_ble_eq_true rfl) rfl (fun G Γ ret => ?_)
  unfold f_X7_set at hf
  refine g_aload_n Γ (pc := 0) 0 dX7_set_0 rfl rfl ?_
  refine g_iload_n Γ (pc := 1) 1 dX7_set_1 rfl rfl ?_
  obtain ⟨v1, h1, hf⟩ := bn1_i hf
  refine g_callVI Γ (pc := 2) (as := [.int a0]) (st := []) dX7_set_2 (c_X7_isNobody hC h1) (C_main hC) rfl mi_X7_isNobody mv_X7_isNobody kM_X7_84 rfl ⟨Nat.le_of_ble_eq_true rfl, Nat.le_of_ble_eq_true rfl⟩ rfl (Nat.le_of_ble_eq_true rfl) ?_
  refine g_if_eq Γ (pc := 5) (tgt := 11) dX7_set_5 rfl hf (fun hf => ?_) (fun hf => ?_)
  · refine g_iload_n Γ (pc := 11) 2 dX7_set_11 rfl rfl ?_
    by_cases h12_0 : a1 = 1
    · replace hf := ite_t h12_0 hf
      refine g_tin Γ (pc := 12) (tgt := 40) 1 dX7_set_12 h12_0 (by decide) (by decide) rfl rfl ?_
      refine g_aload_n Γ (pc := 40) 0 dX7_set_40 rfl rfl ?_
      refine g_iload_n Γ (pc := 41) 1 dX7_set_41 rfl rfl ?_
      refine g_iload_n Γ (pc := 42) 3 dX7_set_42 rfl rfl ?_
      obtain ⟨v6, m7, h1, hf⟩ := bn2_i hf
      refine g_callVI Γ (pc := 43) (as := [.int a0, .int a2]) (st := []) dX7_set_43 (c_X7_setMind hC h1) (C_main hC) rfl mi_X7_setMind mv_X7_setMind kM_X7_124 rfl ⟨Nat.le_of_ble_eq_true rfl, Nat.le_of_ble_eq_true rfl⟩ rfl (Nat.le_of_ble_eq_true rfl) ?_
      exact rI ret dX7_set_46 hf
    · replace hf := ite_f h12_0 hf
      by_cases h12_1 : a1 = 2
      · replace hf := ite_t h12_1 hf
        refine g_tin Γ (pc := 12) (tgt := 47) 2 dX7_set_12 h12_1 (by decide) (by decide) rfl rfl ?_
        refine g_aload_n Γ (pc := 47) 0 dX7_set_47 rfl rfl ?_
        refine g_iload_n Γ (pc := 48) 1 dX7_set_48 rfl rfl ?_
        refine g_iload_n Γ (pc := 49) 3 dX7_set_49 rfl rfl ?_
        obtain ⟨v4, m5, h1, hf⟩ := bn2_i hf
        refine g_callVI Γ (pc := 50) (as := [.int a0, .int a2]) (st := []) dX7_set_50 (c_X7_setPrice hC h1) (C_main hC) rfl mi_X7_setPrice mv_X7_setPrice kM_X7_127 rfl ⟨Nat.le_of_ble_eq_true rfl, Nat.le_of_ble_eq_true rfl⟩ rfl (Nat.le_of_ble_eq_true rfl) ?_
        exact rI ret dX7_set_53 hf
      · replace hf := ite_f h12_1 hf
        by_cases h12_2 : a1 = 3
        · replace hf := ite_t h12_2 hf
          refine g_tin Γ (pc := 12) (tgt := 54) 3 dX7_set_12 h12_2 (by decide) (by decide) rfl rfl ?_
          refine g_aload_n Γ (pc := 54) 0 dX7_set_54 rfl rfl ?_
          refine g_iload_n Γ (pc := 55) 1 dX7_set_55 rfl rfl ?_
          refine g_iload_n Γ (pc := 56) 3 dX7_set_56 rfl rfl ?_
          obtain ⟨v2, m3, h1, hf⟩ := bn2_i hf
          refine g_callVI Γ (pc := 57) (as := [.int a0, .int a2]) (st := []) dX7_set_57 (c_X7_setPurse hC h1) (C_main hC) rfl mi_X7_setPurse mv_X7_setPurse kM_X7_130 rfl ⟨Nat.le_of_ble_eq_true rfl, Nat.le_of_ble_eq_true rfl⟩ rfl (Nat.le_of_ble_eq_true rfl) ?_
          exact rI ret dX7_set_60 hf
        · replace hf := ite_f h12_2 hf
          refine g_tableOut Γ (pc := 12) (tgt := 61) dX7_set_12 (by have e0 := ne_ti (k := 1) rfl h12_0; have e1 := ne_ti (k := 2) rfl h12_1; have e2 := ne_ti (k := 3) rfl h12_2; omega) rfl ?_
          refine g_ldc Γ (pc := 61) dX7_set_61 kK_X7_75 ?_
          exact rI ret dX7_set_63 hf
  · refine g_ldc Γ (pc := 8) dX7_set_8 kK_X7_75 ?_
    exact rI ret dX7_set_10 hf
def f_X7_friends_J50 (a0 : Int32) (a1 : Int32) (a2 : Int32) (μ : Mem) (s5 : Int32) : Option (Int32 × Mem) :=
  if s5 = a2 then
    some (s5, μ)
  else
    bn1 (ldM (μ 25) 10 a0) fun v6 =>
    bn1 (stM μ 25 10 a0 (v6 ^^^ ((1 : Int32) <<< (a1 &&& 31)))) fun m7 =>
    bn1 (ldM (m7 25) 10 a1) fun v8 =>
    bn1 (stM m7 25 10 a1 (v8 ^^^ ((1 : Int32) <<< (a0 &&& 31)))) fun m9 =>
    some (s5, m9)
def f_X7_friends (a0 : Int32) (a1 : Int32) (a2 : Int32) (μ : Mem) : Option (Int32 × Mem) :=
  bn1 (f_X7_isNobody a0 μ) fun v1 =>
  if v1 = 0 then
    bn1 (f_X7_isNobody a1 μ) fun v2 =>
    if v2 = 0 then
      if a0 = a1 then
        some ((-1000000001), μ)
      else
        bn1 (f_X7_outside a2 0 1) fun v3 =>
        if v3 = 0 then
          bn1 (f_X6_areFriends 21 a0 a1 μ) fun v4 =>
          if v4 = 0 then
            f_X7_friends_J50 a0 a1 a2 μ 0
          else
            f_X7_friends_J50 a0 a1 a2 μ 1
        else
          some ((-1000000001), μ)
    else
      some ((-1000000001), μ)
  else
    some ((-1000000001), μ)
set_option maxRecDepth 100000 in
set_option maxHeartbeats 4000000 in
theorem c_X7_friends {Y : SYS} (hC : IsC Y) {a0 : Int32} {a1 : Int32} {a2 : Int32} {μ : Mem} {x : Int32} {m : Mem} (hf : f_X7_friends a0 a1 a2 μ = some (x, m)) : KC Y yX7_friends cX7_friends 5 (some .int) 2 [.ref (sq Y 0), .int a0, .int a1, .int a2] μ (some (.int x)) m := by
  refine KC.I RX7 [(0, .ref (sq Y 0)), (1, .int a0), (2, .int a1), (3, .int a2)] (by decide) rfl (Nat.le_of_ble_eq_true rfl) rfl (fun G Γ ret => ?_)
  unfold f_X7_friends at hf
  refine g_aload_n Γ (pc := 0) 0 dX7_friends_0 rfl rfl ?_
  refine g_iload_n Γ (pc := 1) 1 dX7_friends_1 rfl rfl ?_
  obtain ⟨v1, h1, hf⟩ := bn1_i hf
  refine g_callVI Γ (pc := 2) (as := [.int a0]) (st := []) dX7_friends_2 (c_X7_isNobody hC h1) (C_main hC) rfl mi_X7_isNobody mv_X7_isNobody kM_X7_84 rfl ⟨Nat.le_of_ble_eq_true rfl, Nat.le_of_ble_eq_true rfl⟩ rfl (Nat.le_of_ble_eq_true rfl) ?_
  refine g_if_ne Γ (pc := 5) (tgt := 30) dX7_friends_5 rfl hf (fun hf => ?_) (fun hf => ?_)
  · refine g_ldc Γ (pc := 30) dX7_friends_30 kK_X7_75 ?_
    exact rI ret dX7_friends_32 hf
  · refine g_aload_n Γ (pc := 8) 0 dX7_friends_8 rfl rfl ?_
    refine g_iload_n Γ (pc := 9) 2 dX7_friends_9 rfl rfl ?_
    obtain ⟨v2, h1, hf⟩ := bn1_i hf
    refine g_callVI Γ (pc := 10) (as := [.int a1]) (st := []) dX7_friends_10 (c_X7_isNobody hC h1) (C_main hC) rfl mi_X7_isNobody mv_X7_isNobody kM_X7_84 rfl ⟨Nat.le_of_ble_eq_true rfl, Nat.le_of_ble_eq_true rfl⟩ rfl (Nat.le_of_ble_eq_true rfl) ?_
    refine g_if_ne Γ (pc := 13) (tgt := 30) dX7_friends_13 rfl hf (fun hf => ?_) (fun hf => ?_)
    · refine g_ldc Γ (pc := 30) dX7_friends_30 kK_X7_75 ?_
      exact rI ret dX7_friends_32 hf
    · refine g_iload_n Γ (pc := 16) 1 dX7_friends_16 rfl rfl ?_
      refine g_iload_n Γ (pc := 17) 2 dX7_friends_17 rfl rfl ?_
      refine g_icmp_eq Γ (pc := 18) (tgt := 30) dX7_friends_18 rfl hf (fun hf => ?_) (fun hf => ?_)
      · refine g_ldc Γ (pc := 30) dX7_friends_30 kK_X7_75 ?_
        exact rI ret dX7_friends_32 hf
      · refine g_iload_n Γ (pc := 21) 3 dX7_friends_21 rfl rfl ?_
        refine g_iconst Γ (pc := 22) (v := 0) dX7_friends_22 rfl ?_
        refine g_iconst Γ (pc := 23) (v := 1) dX7_friends_23 rfl ?_
        obtain ⟨v3, h1, hf⟩ := bn1_i hf
        refine g_callSI Γ (pc := 24) (as := [.int a2, .int 0, .int 1]) (st := []) dX7_friends_24 (c_X7_outside h1) mi_X7_outside ms_X7_outside kM_X7_71 rfl ⟨Nat.le_of_ble_eq_true rfl, Nat.le_of_ble_eq_true rfl⟩ rfl (Nat.le_of_ble_eq_true rfl) ?_
        refine g_if_eq Γ (pc := 27) (tgt := 33) dX7_friends_27 rfl hf (fun hf => ?_) (fun hf => ?_)
        · refine g_aload_n Γ (pc := 33) 0 dX7_friends_33 rfl rfl ?_
          refine g_get Γ (pc := 34) (v := .ref (sq Y 21)) dX7_friends_34 (C_main hC) fr_X7_21 rfl ?_
          refine g_iload_n Γ (pc := 37) 1 dX7_friends_37 rfl rfl ?_
          refine g_iload_n Γ (pc := 38) 2 dX7_friends_38 rfl rfl ?_
          obtain ⟨v4, h1, hf⟩ := bn1_i hf
          refine g_callVI Γ (pc := 39) (as := [.int a0, .int a1]) (st := []) dX7_friends_39 (c_X6_areFriends hC (Or.inl rfl) h1) (C_town hC (Or.inl rfl)) rfl mi_X6_areFriends mv_X6_areFriends kM_X7_137 rfl ⟨Nat.le_of_ble_eq_true rfl, Nat.le_of_ble_eq_true rfl⟩ rfl (Nat.le_of_ble_eq_true rfl) ?_
          have J_50 : ∀ (s5 : Int32), f_X7_friends_J50 a0 a1 a2 μ s5 = some (x, m) → G 50 [(0, .ref (sq Y 0)), (1, .int a0), (2, .int a1), (3, .int a2)] [.int s5] μ := by
            intro s5 hf
            unfold f_X7_friends_J50 at hf
            refine g_istore Γ (pc := 50) (lv' := [(4, .int s5), (0, .ref (sq Y 0)), (1, .int a0), (2, .int a1), (3, .int a2)]) dX7_friends_50 (by decide) rfl ?_
            refine g_iload Γ (pc := 52) 0 dX7_friends_52 rfl ?_
            refine g_iload_n Γ (pc := 54) 4 dX7_friends_54 rfl rfl ?_
            refine g_icmp_eq Γ (pc := 55) (tgt := 88) dX7_friends_55 rfl hf (fun hf => ?_) (fun hf => ?_)
            · refine g_iload Γ (pc := 88) 0 dX7_friends_88 rfl ?_
              exact rI ret dX7_friends_90 hf
            · refine g_aload_n Γ (pc := 58) 1 dX7_friends_58 rfl rfl ?_
              refine g_get Γ (pc := 59) (v := .ref (sq Y 21)) dX7_friends_59 (C_main hC) fr_X7_21 rfl ?_
              refine g_get Γ (pc := 62) (v := .ref (sq Y 25)) dX7_friends_62 (C_town hC (Or.inl rfl)) fr_X7_101 rfl ?_
              refine g_iload_n Γ (pc := 65) 2 dX7_friends_65 rfl rfl ?_
              refine g_dup2 Γ (pc := 66) dX7_friends_66 rfl rfl ?_
              refine g_iald Γ (pc := 67) dX7_friends_67 (C_town4 hC (Or.inl rfl)) hf (fun v6 hf => ?_)
              refine g_iconst Γ (pc := 68) (v := 1) dX7_friends_68 rfl ?_
              refine g_iload_n Γ (pc := 69) 3 dX7_friends_69 rfl rfl ?_
              refine g_ishl Γ (pc := 70) dX7_friends_70 ?_
              refine g_ixor Γ (pc := 71) dX7_friends_71 ?_
              refine g_iast Γ (pc := 72) dX7_friends_72 (C_town4 hC (Or.inl rfl)) hf (fun m7 hf => ?_)
              refine g_aload_n Γ (pc := 73) 1 dX7_friends_73 rfl rfl ?_
              refine g_get Γ (pc := 74) (v := .ref (sq Y 21)) dX7_friends_74 (C_main hC) fr_X7_21 rfl ?_
              refine g_get Γ (pc := 77) (v := .ref (sq Y 25)) dX7_friends_77 (C_town hC (Or.inl rfl)) fr_X7_101 rfl ?_
              refine g_iload_n Γ (pc := 80) 3 dX7_friends_80 rfl rfl ?_
              refine g_dup2 Γ (pc := 81) dX7_friends_81 rfl rfl ?_
              refine g_iald Γ (pc := 82) dX7_friends_82 (C_town4 hC (Or.inl rfl)) hf (fun v8 hf => ?_)
              refine g_iconst Γ (pc := 83) (v := 1) dX7_friends_83 rfl ?_
              refine g_iload_n Γ (pc := 84) 2 dX7_friends_84 rfl rfl ?_
              refine g_ishl Γ (pc := 85) dX7_friends_85 ?_
              refine g_ixor Γ (pc := 86) dX7_friends_86 ?_
              refine g_iast Γ (pc := 87) dX7_friends_87 (C_town4 hC (Or.inl rfl)) hf (fun m9 hf => ?_)
              refine g_iload Γ (pc := 88) 0 dX7_friends_88 rfl ?_
              exact rI ret dX7_friends_90 hf
          refine g_if_eq Γ (pc := 42) (tgt := 49) dX7_friends_42 rfl hf (fun hf => ?_) (fun hf => ?_)
          · refine g_iconst Γ (pc := 49) (v := 0) dX7_friends_49 rfl ?_
            refine g_sub Γ [0, 1, 2, 3] rfl ?_
            exact J_50 0 hf
          · refine g_iconst Γ (pc := 45) (v := 1) dX7_friends_45 rfl ?_
            refine g_goto Γ (pc := 46) (tgt := 50) dX7_friends_46 rfl ?_
            refine g_sub Γ [0, 1, 2, 3] rfl ?_
            exact J_50 1 hf
        · refine g_ldc Γ (pc := 30) dX7_friends_30 kK_X7_75 ?_
          exact rI ret dX7_friends_32 hf
def f_X7_rule (a0 : Int32) (a1 : Int32) (μ : Mem) : Option (Int32 × Mem) :=
  if a0 = 0 then
    bn1 (f_X7_outside a1 0 9) fun v5 =>
    if v5 = 0 then
      nm (mset μ 21 7 a1) fun m6 =>
      some ((μ 21 7), m6)
    else
      some ((-1000000001), μ)
  else
    if a0 = 1 then
      bn1 (f_X7_outside a1 0 2) fun v3 =>
      if v3 = 0 then
        nm (mset μ 21 8 a1) fun m4 =>
        some ((μ 21 8), m4)
      else
        some ((-1000000001), μ)
    else
      if a0 = 2 then
        bn1 (f_X7_outside a1 0 100) fun v1 =>
        if v1 = 0 then
          nm (mset μ 21 9 a1) fun m2 =>
          some ((μ 21 9), m2)
        else
          some ((-1000000001), μ)
      else
        some ((-1000000001), μ)
set_option maxRecDepth 100000 in
set_option maxHeartbeats 4000000 in
theorem c_X7_rule {Y : SYS} (hC : IsC Y) {a0 : Int32} {a1 : Int32} {μ : Mem} {x : Int32} {m : Mem} (hf : f_X7_rule a0 a1 μ = some (x, m)) : KC Y yX7_rule cX7_rule 4 (some .int) 1 [.ref (sq Y 0), .int a0, .int a1] μ (some (.int x)) m := by
  refine KC.I RX7 [(0, .ref (sq Y 0)), (1, .int a0), (2, .int a1)] (by decide) rfl (Nat.le_of_ble_eq_true rfl) rfl (fun G Γ ret => ?_)
  unfold f_X7_rule at hf
  refine g_iload_n Γ (pc := 0) 1 dX7_rule_0 rfl rfl ?_
  by_cases h1_0 : a0 = 0
  · replace hf := ite_t h1_0 hf
    refine g_tin Γ (pc := 1) (tgt := 28) 0 dX7_rule_1 h1_0 (by decide) (by decide) rfl rfl ?_
    refine g_iload_n Γ (pc := 28) 2 dX7_rule_28 rfl rfl ?_
    refine g_iconst Γ (pc := 29) (v := 0) dX7_rule_29 rfl ?_
    refine g_bipush Γ (pc := 30) (v := 9) dX7_rule_30 rfl ?_
    obtain ⟨v5, h1, hf⟩ := bn1_i hf
    refine g_callSI Γ (pc := 32) (as := [.int a1, .int 0, .int 9]) (st := []) dX7_rule_32 (c_X7_outside h1) mi_X7_outside ms_X7_outside kM_X7_71 rfl ⟨Nat.le_of_ble_eq_true rfl, Nat.le_of_ble_eq_true rfl⟩ rfl (Nat.le_of_ble_eq_true rfl) ?_
    refine g_if_eq Γ (pc := 35) (tgt := 41) dX7_rule_35 rfl hf (fun hf => ?_) (fun hf => ?_)
    · refine g_aload_n Γ (pc := 41) 0 dX7_rule_41 rfl rfl ?_
      refine g_get Γ (pc := 42) (v := .ref (sq Y 21)) dX7_rule_42 (C_main hC) fr_X7_21 rfl ?_
      refine g_get Γ (pc := 45) (v := .int (μ 21 7)) dX7_rule_45 (C_town hC (Or.inl rfl)) fr_X7_140 rfl ?_
      refine g_istore_n Γ (pc := 48) (lv' := [(3, .int (μ 21 7)), (0, .ref (sq Y 0)), (1, .int a0), (2, .int a1)]) dX7_rule_48 rfl (by decide) rfl ?_
      refine g_aload_n Γ (pc := 49) 1 dX7_rule_49 rfl rfl ?_
      refine g_get Γ (pc := 50) (v := .ref (sq Y 21)) dX7_rule_50 (C_main hC) fr_X7_21 rfl ?_
      refine g_iload_n Γ (pc := 53) 3 dX7_rule_53 rfl rfl ?_
      refine g_put Γ (pc := 54) dX7_rule_54 (C_town hC (Or.inl rfl)) fw_X7_140 (Nat.le_of_ble_eq_true rfl) rfl ?_
      refine g_nmm hf (fun m6 hf => ?_)
      refine g_iload_n Γ (pc := 57) 0 dX7_rule_57 rfl rfl ?_
      exact rI ret dX7_rule_58 hf
    · refine g_ldc Γ (pc := 38) dX7_rule_38 kK_X7_75 ?_
      exact rI ret dX7_rule_40 hf
  · replace hf := ite_f h1_0 hf
    by_cases h1_1 : a0 = 1
    · replace hf := ite_t h1_1 hf
      refine g_tin Γ (pc := 1) (tgt := 59) 1 dX7_rule_1 h1_1 (by decide) (by decide) rfl rfl ?_
      refine g_iload_n Γ (pc := 59) 2 dX7_rule_59 rfl rfl ?_
      refine g_iconst Γ (pc := 60) (v := 0) dX7_rule_60 rfl ?_
      refine g_iconst Γ (pc := 61) (v := 2) dX7_rule_61 rfl ?_
      obtain ⟨v3, h1, hf⟩ := bn1_i hf
      refine g_callSI Γ (pc := 62) (as := [.int a1, .int 0, .int 2]) (st := []) dX7_rule_62 (c_X7_outside h1) mi_X7_outside ms_X7_outside kM_X7_71 rfl ⟨Nat.le_of_ble_eq_true rfl, Nat.le_of_ble_eq_true rfl⟩ rfl (Nat.le_of_ble_eq_true rfl) ?_
      refine g_if_eq Γ (pc := 65) (tgt := 71) dX7_rule_65 rfl hf (fun hf => ?_) (fun hf => ?_)
      · refine g_aload_n Γ (pc := 71) 0 dX7_rule_71 rfl rfl ?_
        refine g_get Γ (pc := 72) (v := .ref (sq Y 21)) dX7_rule_72 (C_main hC) fr_X7_21 rfl ?_
        refine g_get Γ (pc := 75) (v := .int (μ 21 8)) dX7_rule_75 (C_town hC (Or.inl rfl)) fr_X7_143 rfl ?_
        refine g_istore_n Γ (pc := 78) (lv' := [(3, .int (μ 21 8)), (0, .ref (sq Y 0)), (1, .int a0), (2, .int a1)]) dX7_rule_78 rfl (by decide) rfl ?_
        refine g_aload_n Γ (pc := 79) 1 dX7_rule_79 rfl rfl ?_
        refine g_get Γ (pc := 80) (v := .ref (sq Y 21)) dX7_rule_80 (C_main hC) fr_X7_21 rfl ?_
        refine g_iload_n Γ (pc := 83) 3 dX7_rule_83 rfl rfl ?_
        refine g_put Γ (pc := 84) dX7_rule_84 (C_town hC (Or.inl rfl)) fw_X7_143 (Nat.le_of_ble_eq_true rfl) rfl ?_
        refine g_nmm hf (fun m4 hf => ?_)
        refine g_iload_n Γ (pc := 87) 0 dX7_rule_87 rfl rfl ?_
        exact rI ret dX7_rule_88 hf
      · refine g_ldc Γ (pc := 68) dX7_rule_68 kK_X7_75 ?_
        exact rI ret dX7_rule_70 hf
    · replace hf := ite_f h1_1 hf
      by_cases h1_2 : a0 = 2
      · replace hf := ite_t h1_2 hf
        refine g_tin Γ (pc := 1) (tgt := 89) 2 dX7_rule_1 h1_2 (by decide) (by decide) rfl rfl ?_
        refine g_iload_n Γ (pc := 89) 2 dX7_rule_89 rfl rfl ?_
        refine g_iconst Γ (pc := 90) (v := 0) dX7_rule_90 rfl ?_
        refine g_bipush Γ (pc := 91) (v := 100) dX7_rule_91 rfl ?_
        obtain ⟨v1, h1, hf⟩ := bn1_i hf
        refine g_callSI Γ (pc := 93) (as := [.int a1, .int 0, .int 100]) (st := []) dX7_rule_93 (c_X7_outside h1) mi_X7_outside ms_X7_outside kM_X7_71 rfl ⟨Nat.le_of_ble_eq_true rfl, Nat.le_of_ble_eq_true rfl⟩ rfl (Nat.le_of_ble_eq_true rfl) ?_
        refine g_if_eq Γ (pc := 96) (tgt := 102) dX7_rule_96 rfl hf (fun hf => ?_) (fun hf => ?_)
        · refine g_aload_n Γ (pc := 102) 0 dX7_rule_102 rfl rfl ?_
          refine g_get Γ (pc := 103) (v := .ref (sq Y 21)) dX7_rule_103 (C_main hC) fr_X7_21 rfl ?_
          refine g_get Γ (pc := 106) (v := .int (μ 21 9)) dX7_rule_106 (C_town hC (Or.inl rfl)) fr_X7_146 rfl ?_
          refine g_istore_n Γ (pc := 109) (lv' := [(3, .int (μ 21 9)), (0, .ref (sq Y 0)), (1, .int a0), (2, .int a1)]) dX7_rule_109 rfl (by decide) rfl ?_
          refine g_aload_n Γ (pc := 110) 1 dX7_rule_110 rfl rfl ?_
          refine g_get Γ (pc := 111) (v := .ref (sq Y 21)) dX7_rule_111 (C_main hC) fr_X7_21 rfl ?_
          refine g_iload_n Γ (pc := 114) 3 dX7_rule_114 rfl rfl ?_
          refine g_put Γ (pc := 115) dX7_rule_115 (C_town hC (Or.inl rfl)) fw_X7_146 (Nat.le_of_ble_eq_true rfl) rfl ?_
          refine g_nmm hf (fun m2 hf => ?_)
          refine g_iload_n Γ (pc := 118) 0 dX7_rule_118 rfl rfl ?_
          exact rI ret dX7_rule_119 hf
        · refine g_ldc Γ (pc := 99) dX7_rule_99 kK_X7_75 ?_
          exact rI ret dX7_rule_101 hf
      · replace hf := ite_f h1_2 hf
        refine g_tableOut Γ (pc := 1) (tgt := 120) dX7_rule_1 (by have e0 := ne_ti (k := 0) rfl h1_0; have e1 := ne_ti (k := 1) rfl h1_1; have e2 := ne_ti (k := 2) rfl h1_2; omega) rfl ?_
        refine g_ldc Γ (pc := 120) dX7_rule_120 kK_X7_75 ?_
        exact rI ret dX7_rule_122 hf
def f_X7_deal_K30_89 (e2 : Int32) (m3 : Mem) : Option (Int32 × Mem) :=
  some (e2, m3)
def f_X7_deal_L30 (e2 : Int32) (x3_4 : Int32) (m5 : Mem) : Option ((Int32 × Mem) ⊕ Mem) :=
  if e2 ≤ x3_4 then
    some (.inr m5)
  else
    bn2 (f_X6_draw 21 m5) fun v6 m7 =>
    bn1 (rmM v6 6) fun v8 =>
    bn2 (f_X6_draw 21 m7) fun v9 m10 =>
    bn1 (rmM v9 2) fun v11 =>
    bn2 (f_X6_draw 21 m10) fun v12 m13 =>
    bn1 (rmM v12 30) fun v14 =>
    bn1 (f_X6_join 21 v8 v11 v14 m13) fun m15 =>
    some (.inl (x3_4 + 1, m15))
def f_X7_deal (a0 : Int32) (μ : Mem) : Option (Int32 × Mem) :=
  bn1 (f_X7_outside a0 1 10) fun v1 =>
  if v1 = 0 then
    nm (if (10 - (μ 21 5)) < a0 then (10 - (μ 21 5)) else a0) fun e2 =>
    bn1 (lpF (fun v => f_X7_deal_L30 e2 v.1 v.2) 4000 (0, μ)) (fun x => f_X7_deal_K30_89 e2 x)
  else
    some ((-1000000001), μ)
set_option maxRecDepth 100000 in
set_option maxHeartbeats 4000000 in
theorem c_X7_deal {Y : SYS} (hC : IsC Y) {a0 : Int32} {μ : Mem} {x : Int32} {m : Mem} (hf : f_X7_deal a0 μ = some (x, m)) : KC Y yX7_deal cX7_deal 7 (some .int) 1 [.ref (sq Y 0), .int a0] μ (some (.int x)) m := by
  refine KC.I RX7 [(0, .ref (sq Y 0)), (1, .int a0)] (by decide) rfl (Nat.le_of_ble_eq_true rfl) rfl (fun G Γ ret => ?_)
  unfold f_X7_deal at hf
  refine g_iload_n Γ (pc := 0) 1 dX7_deal_0 rfl rfl ?_
  refine g_iconst Γ (pc := 1) (v := 1) dX7_deal_1 rfl ?_
  refine g_bipush Γ (pc := 2) (v := 10) dX7_deal_2 rfl ?_
  obtain ⟨v1, h1, hf⟩ := bn1_i hf
  refine g_callSI Γ (pc := 4) (as := [.int a0, .int 1, .int 10]) (st := []) dX7_deal_4 (c_X7_outside h1) mi_X7_outside ms_X7_outside kM_X7_71 rfl ⟨Nat.le_of_ble_eq_true rfl, Nat.le_of_ble_eq_true rfl⟩ rfl (Nat.le_of_ble_eq_true rfl) ?_
  refine g_if_eq Γ (pc := 7) (tgt := 13) dX7_deal_7 rfl hf (fun hf => ?_) (fun hf => ?_)
  · refine g_iload_n Γ (pc := 13) 1 dX7_deal_13 rfl rfl ?_
    refine g_bipush Γ (pc := 14) (v := 10) dX7_deal_14 rfl ?_
    refine g_aload_n Γ (pc := 16) 0 dX7_deal_16 rfl rfl ?_
    refine g_get Γ (pc := 17) (v := .ref (sq Y 21)) dX7_deal_17 (C_main hC) fr_X7_21 rfl ?_
    refine g_get Γ (pc := 20) (v := .int (μ 21 5)) dX7_deal_20 (C_town hC (Or.inl rfl)) fr_X7_76 rfl ?_
    refine g_isub Γ (pc := 23) dX7_deal_23 ?_
    refine g_min Γ (pc := 24) dX7_deal_24 kM_X7_149 kS_Math_min kI_J9 kC_Math_min (Nat.le_of_ble_eq_true rfl) (Nat.le_of_ble_eq_true rfl) ?_
    refine g_nmi hf (fun e2 hf => ?_)
    refine g_istore_n Γ (pc := 27) (lv' := [(2, .int e2), (0, .ref (sq Y 0)), (1, .int a0)]) dX7_deal_27 rfl (by decide) rfl ?_
    refine g_iconst Γ (pc := 28) (v := 0) dX7_deal_28 rfl ?_
    refine g_istore_n Γ (pc := 29) (lv' := [(3, .int 0), (2, .int e2), (0, .ref (sq Y 0)), (1, .int a0)]) dX7_deal_29 rfl (by decide) rfl ?_
    have K_30_89 : ∀ (m3 : Mem), f_X7_deal_K30_89 e2 m3 = some (x, m) → G 89 [(2, .int e2)] [] m3 := by
      intro m3 hf
      unfold f_X7_deal_K30_89 at hf
      refine g_iload_n Γ (pc := 89) 0 dX7_deal_89 rfl rfl ?_
      exact rI ret dX7_deal_90 hf
    refine g_sub Γ [2, 1, 0] rfl ?_
    refine lpF_s (P := fun (v : Int32 × Mem) => G 30 [(0, .ref (sq Y 0)), (2, .int e2), (3, .int v.1)] [] v.2) hf (fun v z1 hf kI1 kX1 => ?_)
    obtain ⟨x3_4, m5⟩ := v
    replace hf : f_X7_deal_L30 e2 x3_4 m5 = some z1 := hf
    show G 30 [(0, .ref (sq Y 0)), (2, .int e2), (3, .int x3_4)] [] m5
    unfold f_X7_deal_L30 at hf
    refine g_iload_n Γ (pc := 30) 2 dX7_deal_30 rfl rfl ?_
    refine g_iload_n Γ (pc := 31) 1 dX7_deal_31 rfl rfl ?_
    refine g_icmp_ge Γ (pc := 32) (tgt := 89) dX7_deal_32 rfl hf (fun hf => ?_) (fun hf => ?_)
    · refine g_sub Γ [1] rfl ?_
      exact K_30_89 m5 (kX1 m5 (Option.some.inj hf).symm)
    · refine g_aload_n Γ (pc := 35) 0 dX7_deal_35 rfl rfl ?_
      refine g_get Γ (pc := 36) (v := .ref (sq Y 21)) dX7_deal_36 (C_main hC) fr_X7_21 rfl ?_
      obtain ⟨v6, m7, h1, hf⟩ := bn2_i hf
      refine g_callVI Γ (pc := 39) (as := []) (st := []) dX7_deal_39 (c_X6_draw hC (Or.inl rfl) h1) (C_town hC (Or.inl rfl)) rfl mi_X6_draw mv_X6_draw kM_X7_154 rfl ⟨Nat.le_of_ble_eq_true rfl, Nat.le_of_ble_eq_true rfl⟩ rfl (Nat.le_of_ble_eq_true rfl) ?_
      refine g_bipush Γ (pc := 42) (v := 6) dX7_deal_42 rfl ?_
      refine g_irem Γ (pc := 44) dX7_deal_44 hf (fun v8 hf => ?_)
      refine g_istore Γ (pc := 45) (lv' := [(4, .int v8), (0, .ref (sq Y 0)), (2, .int e2), (3, .int x3_4)]) dX7_deal_45 (by decide) rfl ?_
      refine g_aload_n Γ (pc := 47) 1 dX7_deal_47 rfl rfl ?_
      refine g_get Γ (pc := 48) (v := .ref (sq Y 21)) dX7_deal_48 (C_main hC) fr_X7_21 rfl ?_
      obtain ⟨v9, m10, h1, hf⟩ := bn2_i hf
      refine g_callVI Γ (pc := 51) (as := []) (st := []) dX7_deal_51 (c_X6_draw hC (Or.inl rfl) h1) (C_town hC (Or.inl rfl)) rfl mi_X6_draw mv_X6_draw kM_X7_154 rfl ⟨Nat.le_of_ble_eq_true rfl, Nat.le_of_ble_eq_true rfl⟩ rfl (Nat.le_of_ble_eq_true rfl) ?_
      refine g_iconst Γ (pc := 54) (v := 2) dX7_deal_54 rfl ?_
      refine g_irem Γ (pc := 55) dX7_deal_55 hf (fun v11 hf => ?_)
      refine g_istore Γ (pc := 56) (lv' := [(5, .int v11), (4, .int v8), (0, .ref (sq Y 0)), (2, .int e2), (3, .int x3_4)]) dX7_deal_56 (by decide) rfl ?_
      refine g_aload_n Γ (pc := 58) 2 dX7_deal_58 rfl rfl ?_
      refine g_get Γ (pc := 59) (v := .ref (sq Y 21)) dX7_deal_59 (C_main hC) fr_X7_21 rfl ?_
      obtain ⟨v12, m13, h1, hf⟩ := bn2_i hf
      refine g_callVI Γ (pc := 62) (as := []) (st := []) dX7_deal_62 (c_X6_draw hC (Or.inl rfl) h1) (C_town hC (Or.inl rfl)) rfl mi_X6_draw mv_X6_draw kM_X7_154 rfl ⟨Nat.le_of_ble_eq_true rfl, Nat.le_of_ble_eq_true rfl⟩ rfl (Nat.le_of_ble_eq_true rfl) ?_
      refine g_bipush Γ (pc := 65) (v := 30) dX7_deal_65 rfl ?_
      refine g_irem Γ (pc := 67) dX7_deal_67 hf (fun v14 hf => ?_)
      refine g_istore Γ (pc := 68) (lv' := [(6, .int v14), (5, .int v11), (4, .int v8), (0, .ref (sq Y 0)), (2, .int e2), (3, .int x3_4)]) dX7_deal_68 (by decide) rfl ?_
      refine g_aload_n Γ (pc := 70) 3 dX7_deal_70 rfl rfl ?_
      refine g_get Γ (pc := 71) (v := .ref (sq Y 21)) dX7_deal_71 (C_main hC) fr_X7_21 rfl ?_
      refine g_iload Γ (pc := 74) 2 dX7_deal_74 rfl ?_
      refine g_iload Γ (pc := 76) 1 dX7_deal_76 rfl ?_
      refine g_iload Γ (pc := 78) 0 dX7_deal_78 rfl ?_
      obtain ⟨m15, h1, hf⟩ := bn1_i hf
      refine g_callVV Γ (pc := 80) (as := [.int v8, .int v11, .int v14]) (st := []) dX7_deal_80 (c_X6_join hC (Or.inl rfl) h1) (C_town hC (Or.inl rfl)) rfl mi_X6_join mv_X6_join kM_X7_80 rfl ⟨Nat.le_of_ble_eq_true rfl, Nat.le_of_ble_eq_true rfl⟩ rfl (Nat.le_of_ble_eq_true rfl) ?_
      refine g_iinc Γ (pc := 83) (v := x3_4 + 1) (lv' := [(3, .int (x3_4 + 1)), (6, .int v14), (5, .int v11), (4, .int v8), (0, .ref (sq Y 0)), (2, .int e2)]) 5 dX7_deal_83 rfl rfl (by decide) rfl ?_
      refine g_goto Γ (pc := 86) (tgt := 30) dX7_deal_86 rfl ?_
      refine g_sub Γ [4, 5, 0] rfl ?_
      exact kI1 (x3_4 + 1, m15) (Option.some.inj hf).symm
  · refine g_ldc Γ (pc := 10) dX7_deal_10 kK_X7_75 ?_
    exact rI ret dX7_deal_12 hf
def f_X7_seed (a0 : Int32) (μ : Mem) : Option (Int32 × Mem) :=
  nm (mset μ 21 13 a0) fun m1 =>
  some ((μ 21 13), m1)
set_option maxRecDepth 100000 in
set_option maxHeartbeats 4000000 in
theorem c_X7_seed {Y : SYS} (hC : IsC Y) {a0 : Int32} {μ : Mem} {x : Int32} {m : Mem} (hf : f_X7_seed a0 μ = some (x, m)) : KC Y yX7_seed cX7_seed 3 (some .int) 0 [.ref (sq Y 0), .int a0] μ (some (.int x)) m := by
  refine KC.I RX7 [(0, .ref (sq Y 0)), (1, .int a0)] (by decide) rfl (Nat.le_of_ble_eq_true rfl) rfl (fun G Γ ret => ?_)
  unfold f_X7_seed at hf
  refine g_aload_n Γ (pc := 0) 0 dX7_seed_0 rfl rfl ?_
  refine g_get Γ (pc := 1) (v := .ref (sq Y 21)) dX7_seed_1 (C_main hC) fr_X7_21 rfl ?_
  refine g_get Γ (pc := 4) (v := .int (μ 21 13)) dX7_seed_4 (C_town hC (Or.inl rfl)) fr_X7_158 rfl ?_
  refine g_istore_n Γ (pc := 7) (lv' := [(2, .int (μ 21 13)), (0, .ref (sq Y 0)), (1, .int a0)]) dX7_seed_7 rfl (by decide) rfl ?_
  refine g_aload_n Γ (pc := 8) 1 dX7_seed_8 rfl rfl ?_
  refine g_get Γ (pc := 9) (v := .ref (sq Y 21)) dX7_seed_9 (C_main hC) fr_X7_21 rfl ?_
  refine g_iload_n Γ (pc := 12) 2 dX7_seed_12 rfl rfl ?_
  refine g_put Γ (pc := 13) dX7_seed_13 (C_town hC (Or.inl rfl)) fw_X7_158 (Nat.le_of_ble_eq_true rfl) rfl ?_
  refine g_nmm hf (fun m1 hf => ?_)
  refine g_iload_n Γ (pc := 16) 0 dX7_seed_16 rfl rfl ?_
  exact rI ret dX7_seed_17 hf
def f_X7_town (a0 : Int32) (μ : Mem) : Option (Int32) :=
  if a0 = 0 then
    bn1 (f_X6_offTogether 21 μ) fun v3 =>
    some v3
  else
    if a0 = 1 then
      some (μ 21 10)
    else
      if a0 = 2 then
        some (μ 21 11)
      else
        if a0 = 3 then
          some (μ 21 6)
        else
          if a0 = 4 then
            bn1 (f_X6_unruly 21 (μ 21 6) μ) fun v2 =>
            some v2
          else
            if a0 = 5 then
              bn1 (f_X6_oddOnes 21 μ) fun v1 =>
              some v1
            else
              some (-1000000001)
set_option maxRecDepth 100000 in
set_option maxHeartbeats 4000000 in
theorem c_X7_town {Y : SYS} (hC : IsC Y) {a0 : Int32} {μ : Mem} {x : Int32} (hf : f_X7_town a0 μ = some x) : KC Y yX7_town cX7_town 2 (some .int) 5 [.ref (sq Y 0), .int a0] μ (some (.int x)) μ := by
  refine KC.I RX7 [(0, .ref (sq Y 0)), (1, .int a0)] (by decide) rfl (Nat.le_of_ble_eq_true rfl) rfl (fun G Γ ret => ?_)
  unfold f_X7_town at hf
  refine g_iload_n Γ (pc := 0) 1 dX7_town_0 rfl rfl ?_
  by_cases h1_0 : a0 = 0
  · replace hf := ite_t h1_0 hf
    refine g_tin Γ (pc := 1) (tgt := 40) 0 dX7_town_1 h1_0 (by decide) (by decide) rfl rfl ?_
    refine g_aload_n Γ (pc := 40) 0 dX7_town_40 rfl rfl ?_
    refine g_get Γ (pc := 41) (v := .ref (sq Y 21)) dX7_town_41 (C_main hC) fr_X7_21 rfl ?_
    obtain ⟨v3, h1, hf⟩ := bn1_i hf
    refine g_callVI Γ (pc := 44) (as := []) (st := []) dX7_town_44 (c_X6_offTogether hC (Or.inl rfl) h1) (C_town hC (Or.inl rfl)) rfl mi_X6_offTogether mv_X6_offTogether kM_X7_161 rfl ⟨Nat.le_of_ble_eq_true rfl, Nat.le_of_ble_eq_true rfl⟩ rfl (Nat.le_of_ble_eq_true rfl) ?_
    exact rIr ret dX7_town_47 hf
  · replace hf := ite_f h1_0 hf
    by_cases h1_1 : a0 = 1
    · replace hf := ite_t h1_1 hf
      refine g_tin Γ (pc := 1) (tgt := 48) 1 dX7_town_1 h1_1 (by decide) (by decide) rfl rfl ?_
      refine g_aload_n Γ (pc := 48) 0 dX7_town_48 rfl rfl ?_
      refine g_get Γ (pc := 49) (v := .ref (sq Y 21)) dX7_town_49 (C_main hC) fr_X7_21 rfl ?_
      refine g_get Γ (pc := 52) (v := .int (μ 21 10)) dX7_town_52 (C_town hC (Or.inl rfl)) fr_X7_164 rfl ?_
      exact rIr ret dX7_town_55 hf
    · replace hf := ite_f h1_1 hf
      by_cases h1_2 : a0 = 2
      · replace hf := ite_t h1_2 hf
        refine g_tin Γ (pc := 1) (tgt := 56) 2 dX7_town_1 h1_2 (by decide) (by decide) rfl rfl ?_
        refine g_aload_n Γ (pc := 56) 0 dX7_town_56 rfl rfl ?_
        refine g_get Γ (pc := 57) (v := .ref (sq Y 21)) dX7_town_57 (C_main hC) fr_X7_21 rfl ?_
        refine g_get Γ (pc := 60) (v := .int (μ 21 11)) dX7_town_60 (C_town hC (Or.inl rfl)) fr_X7_167 rfl ?_
        exact rIr ret dX7_town_63 hf
      · replace hf := ite_f h1_2 hf
        by_cases h1_3 : a0 = 3
        · replace hf := ite_t h1_3 hf
          refine g_tin Γ (pc := 1) (tgt := 64) 3 dX7_town_1 h1_3 (by decide) (by decide) rfl rfl ?_
          refine g_aload_n Γ (pc := 64) 0 dX7_town_64 rfl rfl ?_
          refine g_get Γ (pc := 65) (v := .ref (sq Y 21)) dX7_town_65 (C_main hC) fr_X7_21 rfl ?_
          refine g_get Γ (pc := 68) (v := .int (μ 21 6)) dX7_town_68 (C_town hC (Or.inl rfl)) fr_X7_170 rfl ?_
          exact rIr ret dX7_town_71 hf
        · replace hf := ite_f h1_3 hf
          by_cases h1_4 : a0 = 4
          · replace hf := ite_t h1_4 hf
            refine g_tin Γ (pc := 1) (tgt := 72) 4 dX7_town_1 h1_4 (by decide) (by decide) rfl rfl ?_
            refine g_aload_n Γ (pc := 72) 0 dX7_town_72 rfl rfl ?_
            refine g_get Γ (pc := 73) (v := .ref (sq Y 21)) dX7_town_73 (C_main hC) fr_X7_21 rfl ?_
            refine g_aload_n Γ (pc := 76) 0 dX7_town_76 rfl rfl ?_
            refine g_get Γ (pc := 77) (v := .ref (sq Y 21)) dX7_town_77 (C_main hC) fr_X7_21 rfl ?_
            refine g_get Γ (pc := 80) (v := .int (μ 21 6)) dX7_town_80 (C_town hC (Or.inl rfl)) fr_X7_170 rfl ?_
            obtain ⟨v2, h1, hf⟩ := bn1_i hf
            refine g_callVI Γ (pc := 83) (as := [.int (μ 21 6)]) (st := []) dX7_town_83 (c_X6_unruly hC (Or.inl rfl) h1) (C_town hC (Or.inl rfl)) rfl mi_X6_unruly mv_X6_unruly kM_X7_173 rfl ⟨Nat.le_of_ble_eq_true rfl, Nat.le_of_ble_eq_true rfl⟩ rfl (Nat.le_of_ble_eq_true rfl) ?_
            exact rIr ret dX7_town_86 hf
          · replace hf := ite_f h1_4 hf
            by_cases h1_5 : a0 = 5
            · replace hf := ite_t h1_5 hf
              refine g_tin Γ (pc := 1) (tgt := 87) 5 dX7_town_1 h1_5 (by decide) (by decide) rfl rfl ?_
              refine g_aload_n Γ (pc := 87) 0 dX7_town_87 rfl rfl ?_
              refine g_get Γ (pc := 88) (v := .ref (sq Y 21)) dX7_town_88 (C_main hC) fr_X7_21 rfl ?_
              obtain ⟨v1, h1, hf⟩ := bn1_i hf
              refine g_callVI Γ (pc := 91) (as := []) (st := []) dX7_town_91 (c_X6_oddOnes hC (Or.inl rfl) h1) (C_town hC (Or.inl rfl)) rfl mi_X6_oddOnes mv_X6_oddOnes kM_X7_176 rfl ⟨Nat.le_of_ble_eq_true rfl, Nat.le_of_ble_eq_true rfl⟩ rfl (Nat.le_of_ble_eq_true rfl) ?_
              exact rIr ret dX7_town_94 hf
            · replace hf := ite_f h1_5 hf
              refine g_tableOut Γ (pc := 1) (tgt := 95) dX7_town_1 (by have e0 := ne_ti (k := 0) rfl h1_0; have e1 := ne_ti (k := 1) rfl h1_1; have e2 := ne_ti (k := 2) rfl h1_2; have e3 := ne_ti (k := 3) rfl h1_3; have e4 := ne_ti (k := 4) rfl h1_4; have e5 := ne_ti (k := 5) rfl h1_5; omega) rfl ?_
              refine g_ldc Γ (pc := 95) dX7_town_95 kK_X7_75 ?_
              exact rIr ret dX7_town_97 hf
def f_X7_ways (μ : Mem) : Option (Int32 × Mem) :=
  bn1 (f_X2_scan 21 μ) fun m1 =>
  bn1 (f_X2_howMany m1) fun v2 =>
  some (v2, m1)
set_option maxRecDepth 100000 in
set_option maxHeartbeats 4000000 in
theorem c_X7_ways {Y : SYS} (hC : IsC Y) {μ : Mem} {x : Int32} {m : Mem} (hf : f_X7_ways μ = some (x, m)) : KC Y yX7_ways cX7_ways 1 (some .int) 5 [.ref (sq Y 0)] μ (some (.int x)) m := by
  refine KC.I RX7 [(0, .ref (sq Y 0))] (by decide) rfl (Nat.le_of_ble_eq_true rfl) rfl (fun G Γ ret => ?_)
  unfold f_X7_ways at hf
  refine g_aload_n Γ (pc := 0) 0 dX7_ways_0 rfl rfl ?_
  refine g_get Γ (pc := 1) (v := .ref (sq Y 36)) dX7_ways_1 (C_main hC) fr_X7_34 rfl ?_
  refine g_aload_n Γ (pc := 4) 0 dX7_ways_4 rfl rfl ?_
  refine g_get Γ (pc := 5) (v := .ref (sq Y 21)) dX7_ways_5 (C_main hC) fr_X7_21 rfl ?_
  obtain ⟨m1, h1, hf⟩ := bn1_i hf
  refine g_callVV Γ (pc := 8) (as := [.ref (sq Y 21)]) (st := []) dX7_ways_8 (c_X2_scan hC (Or.inl rfl) h1) (C_order hC) rfl mi_X2_scan mv_X2_scan kM_X7_179 rfl ⟨Nat.le_of_ble_eq_true rfl, Nat.le_of_ble_eq_true rfl⟩ rfl (Nat.le_of_ble_eq_true rfl) ?_
  refine g_aload_n Γ (pc := 11) 0 dX7_ways_11 rfl rfl ?_
  refine g_get Γ (pc := 12) (v := .ref (sq Y 36)) dX7_ways_12 (C_main hC) fr_X7_34 rfl ?_
  obtain ⟨v2, h1, hf⟩ := bn1_i hf
  refine g_callVI Γ (pc := 15) (as := []) (st := []) dX7_ways_15 (c_X2_howMany hC h1) (C_order hC) rfl mi_X2_howMany mv_X2_howMany kM_X7_183 rfl ⟨Nat.le_of_ble_eq_true rfl, Nat.le_of_ble_eq_true rfl⟩ rfl (Nat.le_of_ble_eq_true rfl) ?_
  exact rI ret dX7_ways_18 hf
def f_X7_minds (a0 : Int32) (μ : Mem) : Option (Int32 × Mem) :=
  bn1 (f_X7_outside a0 0 3) fun v1 =>
  if v1 = 0 then
    bn1 (f_X2_scan 21 μ) fun m2 =>
    bn1 (f_X2_chosen 21 a0 m2) fun v3 =>
    some (v3, m2)
  else
    some ((-1000000001), μ)
set_option maxRecDepth 100000 in
set_option maxHeartbeats 4000000 in
theorem c_X7_minds {Y : SYS} (hC : IsC Y) {a0 : Int32} {μ : Mem} {x : Int32} {m : Mem} (hf : f_X7_minds a0 μ = some (x, m)) : KC Y yX7_minds cX7_minds 2 (some .int) 5 [.ref (sq Y 0), .int a0] μ (some (.int x)) m := by
  refine KC.I RX7 [(0, .ref (sq Y 0)), (1, .int a0)] (by decide) rfl (Nat.le_of_ble_eq_true rfl) rfl (fun G Γ ret => ?_)
  unfold f_X7_minds at hf
  refine g_iload_n Γ (pc := 0) 1 dX7_minds_0 rfl rfl ?_
  refine g_iconst Γ (pc := 1) (v := 0) dX7_minds_1 rfl ?_
  refine g_iconst Γ (pc := 2) (v := 3) dX7_minds_2 rfl ?_
  obtain ⟨v1, h1, hf⟩ := bn1_i hf
  refine g_callSI Γ (pc := 3) (as := [.int a0, .int 0, .int 3]) (st := []) dX7_minds_3 (c_X7_outside h1) mi_X7_outside ms_X7_outside kM_X7_71 rfl ⟨Nat.le_of_ble_eq_true rfl, Nat.le_of_ble_eq_true rfl⟩ rfl (Nat.le_of_ble_eq_true rfl) ?_
  refine g_if_eq Γ (pc := 6) (tgt := 12) dX7_minds_6 rfl hf (fun hf => ?_) (fun hf => ?_)
  · refine g_aload_n Γ (pc := 12) 0 dX7_minds_12 rfl rfl ?_
    refine g_get Γ (pc := 13) (v := .ref (sq Y 36)) dX7_minds_13 (C_main hC) fr_X7_34 rfl ?_
    refine g_aload_n Γ (pc := 16) 0 dX7_minds_16 rfl rfl ?_
    refine g_get Γ (pc := 17) (v := .ref (sq Y 21)) dX7_minds_17 (C_main hC) fr_X7_21 rfl ?_
    obtain ⟨m2, h1, hf⟩ := bn1_i hf
    refine g_callVV Γ (pc := 20) (as := [.ref (sq Y 21)]) (st := []) dX7_minds_20 (c_X2_scan hC (Or.inl rfl) h1) (C_order hC) rfl mi_X2_scan mv_X2_scan kM_X7_179 rfl ⟨Nat.le_of_ble_eq_true rfl, Nat.le_of_ble_eq_true rfl⟩ rfl (Nat.le_of_ble_eq_true rfl) ?_
    refine g_aload_n Γ (pc := 23) 0 dX7_minds_23 rfl rfl ?_
    refine g_get Γ (pc := 24) (v := .ref (sq Y 36)) dX7_minds_24 (C_main hC) fr_X7_34 rfl ?_
    refine g_aload_n Γ (pc := 27) 0 dX7_minds_27 rfl rfl ?_
    refine g_get Γ (pc := 28) (v := .ref (sq Y 21)) dX7_minds_28 (C_main hC) fr_X7_21 rfl ?_
    refine g_iload_n Γ (pc := 31) 1 dX7_minds_31 rfl rfl ?_
    obtain ⟨v3, h1, hf⟩ := bn1_i hf
    refine g_callVI Γ (pc := 32) (as := [.ref (sq Y 21), .int a0]) (st := []) dX7_minds_32 (c_X2_chosen hC (Or.inl rfl) h1) (C_order hC) rfl mi_X2_chosen mv_X2_chosen kM_X7_186 rfl ⟨Nat.le_of_ble_eq_true rfl, Nat.le_of_ble_eq_true rfl⟩ rfl (Nat.le_of_ble_eq_true rfl) ?_
    exact rI ret dX7_minds_35 hf
  · refine g_ldc Γ (pc := 9) dX7_minds_9 kK_X7_75 ?_
    exact rI ret dX7_minds_11 hf
def f_X7_freedom (μ : Mem) : Option (Int32 × Mem) :=
  bn1 (f_X2_scan 21 μ) fun m1 =>
  bn1 (f_X2_free m1) fun v2 =>
  some (v2, m1)
set_option maxRecDepth 100000 in
set_option maxHeartbeats 4000000 in
theorem c_X7_freedom {Y : SYS} (hC : IsC Y) {μ : Mem} {x : Int32} {m : Mem} (hf : f_X7_freedom μ = some (x, m)) : KC Y yX7_freedom cX7_freedom 1 (some .int) 5 [.ref (sq Y 0)] μ (some (.int x)) m := by
  refine KC.I RX7 [(0, .ref (sq Y 0))] (by decide) rfl (Nat.le_of_ble_eq_true rfl) rfl (fun G Γ ret => ?_)
  unfold f_X7_freedom at hf
  refine g_aload_n Γ (pc := 0) 0 dX7_freedom_0 rfl rfl ?_
  refine g_get Γ (pc := 1) (v := .ref (sq Y 36)) dX7_freedom_1 (C_main hC) fr_X7_34 rfl ?_
  refine g_aload_n Γ (pc := 4) 0 dX7_freedom_4 rfl rfl ?_
  refine g_get Γ (pc := 5) (v := .ref (sq Y 21)) dX7_freedom_5 (C_main hC) fr_X7_21 rfl ?_
  obtain ⟨m1, h1, hf⟩ := bn1_i hf
  refine g_callVV Γ (pc := 8) (as := [.ref (sq Y 21)]) (st := []) dX7_freedom_8 (c_X2_scan hC (Or.inl rfl) h1) (C_order hC) rfl mi_X2_scan mv_X2_scan kM_X7_179 rfl ⟨Nat.le_of_ble_eq_true rfl, Nat.le_of_ble_eq_true rfl⟩ rfl (Nat.le_of_ble_eq_true rfl) ?_
  refine g_aload_n Γ (pc := 11) 0 dX7_freedom_11 rfl rfl ?_
  refine g_get Γ (pc := 12) (v := .ref (sq Y 36)) dX7_freedom_12 (C_main hC) fr_X7_34 rfl ?_
  obtain ⟨v2, h1, hf⟩ := bn1_i hf
  refine g_callVI Γ (pc := 15) (as := []) (st := []) dX7_freedom_15 (c_X2_free hC h1) (C_order hC) rfl mi_X2_free mv_X2_free kM_X7_190 rfl ⟨Nat.le_of_ble_eq_true rfl, Nat.le_of_ble_eq_true rfl⟩ rfl (Nat.le_of_ble_eq_true rfl) ?_
  exact rI ret dX7_freedom_18 hf
def f_X7_together (μ : Mem) : Option (Int32 × Mem) :=
  bn1 (f_X6_unruly 21 (μ 21 6) μ) fun v1 =>
  if v1 = 0 then
    bn1 (f_X2_scan 21 μ) fun m2 =>
    bn1 (f_X2_nearest (m2 21 6) m2) fun v3 =>
    some (v3, m2)
  else
    some ((-1000000002), μ)
set_option maxRecDepth 100000 in
set_option maxHeartbeats 4000000 in
theorem c_X7_together {Y : SYS} (hC : IsC Y) {μ : Mem} {x : Int32} {m : Mem} (hf : f_X7_together μ = some (x, m)) : KC Y yX7_together cX7_together 1 (some .int) 5 [.ref (sq Y 0)] μ (some (.int x)) m := by
  refine KC.I RX7 [(0, .ref (sq Y 0))] (by decide) rfl (Nat.le_of_ble_eq_true rfl) rfl (fun G Γ ret => ?_)
  unfold f_X7_together at hf
  refine g_aload_n Γ (pc := 0) 0 dX7_together_0 rfl rfl ?_
  refine g_get Γ (pc := 1) (v := .ref (sq Y 21)) dX7_together_1 (C_main hC) fr_X7_21 rfl ?_
  refine g_aload_n Γ (pc := 4) 0 dX7_together_4 rfl rfl ?_
  refine g_get Γ (pc := 5) (v := .ref (sq Y 21)) dX7_together_5 (C_main hC) fr_X7_21 rfl ?_
  refine g_get Γ (pc := 8) (v := .int (μ 21 6)) dX7_together_8 (C_town hC (Or.inl rfl)) fr_X7_170 rfl ?_
  obtain ⟨v1, h1, hf⟩ := bn1_i hf
  refine g_callVI Γ (pc := 11) (as := [.int (μ 21 6)]) (st := []) dX7_together_11 (c_X6_unruly hC (Or.inl rfl) h1) (C_town hC (Or.inl rfl)) rfl mi_X6_unruly mv_X6_unruly kM_X7_173 rfl ⟨Nat.le_of_ble_eq_true rfl, Nat.le_of_ble_eq_true rfl⟩ rfl (Nat.le_of_ble_eq_true rfl) ?_
  refine g_if_eq Γ (pc := 14) (tgt := 20) dX7_together_14 rfl hf (fun hf => ?_) (fun hf => ?_)
  · refine g_aload_n Γ (pc := 20) 0 dX7_together_20 rfl rfl ?_
    refine g_get Γ (pc := 21) (v := .ref (sq Y 36)) dX7_together_21 (C_main hC) fr_X7_34 rfl ?_
    refine g_aload_n Γ (pc := 24) 0 dX7_together_24 rfl rfl ?_
    refine g_get Γ (pc := 25) (v := .ref (sq Y 21)) dX7_together_25 (C_main hC) fr_X7_21 rfl ?_
    obtain ⟨m2, h1, hf⟩ := bn1_i hf
    refine g_callVV Γ (pc := 28) (as := [.ref (sq Y 21)]) (st := []) dX7_together_28 (c_X2_scan hC (Or.inl rfl) h1) (C_order hC) rfl mi_X2_scan mv_X2_scan kM_X7_179 rfl ⟨Nat.le_of_ble_eq_true rfl, Nat.le_of_ble_eq_true rfl⟩ rfl (Nat.le_of_ble_eq_true rfl) ?_
    refine g_aload_n Γ (pc := 31) 0 dX7_together_31 rfl rfl ?_
    refine g_get Γ (pc := 32) (v := .ref (sq Y 36)) dX7_together_32 (C_main hC) fr_X7_34 rfl ?_
    refine g_aload_n Γ (pc := 35) 0 dX7_together_35 rfl rfl ?_
    refine g_get Γ (pc := 36) (v := .ref (sq Y 21)) dX7_together_36 (C_main hC) fr_X7_21 rfl ?_
    refine g_get Γ (pc := 39) (v := .int (m2 21 6)) dX7_together_39 (C_town hC (Or.inl rfl)) fr_X7_170 rfl ?_
    obtain ⟨v3, h1, hf⟩ := bn1_i hf
    refine g_callVI Γ (pc := 42) (as := [.int (m2 21 6)]) (st := []) dX7_together_42 (c_X2_nearest hC h1) (C_order hC) rfl mi_X2_nearest mv_X2_nearest kM_X7_194 rfl ⟨Nat.le_of_ble_eq_true rfl, Nat.le_of_ble_eq_true rfl⟩ rfl (Nat.le_of_ble_eq_true rfl) ?_
    exact rI ret dX7_together_45 hf
  · refine g_ldc Γ (pc := 17) dX7_together_17 kK_X7_193 ?_
    exact rI ret dX7_together_19 hf
def f_X7_best_K42_161 (a1 : Int32) (m3 : Mem) (y3_4 : Int32) (y4_5 : Int32) : Option (Int32 × Mem) :=
  if a1 = 0 then
    some (y3_4, m3)
  else
    some (y4_5, m3)
def f_X7_best_K60_155 (x5_8 : Int32) (y3_9 : Int32) (y4_10 : Int32) : Option ((Int32 × Int32 × Int32) ⊕ (Int32 × Int32)) :=
  some (.inl (y3_9, y4_10, x5_8 + 1))
def f_X7_best_J149 (x6_13 : Int32) (x3_18 : Int32) (x4_19 : Int32) : Option ((Int32 × Int32 × Int32) ⊕ (Int32 × Int32)) :=
  some (.inl (x3_18, x4_19, x6_13 + 1))
def f_X7_best_J127 (x5_8 : Int32) (x3_11 : Int32) (x4_12 : Int32) (x6_13 : Int32) (s17 : Int32) : Option ((Int32 × Int32 × Int32) ⊕ (Int32 × Int32)) :=
  if s17 ≤ x4_12 then
    f_X7_best_J149 x6_13 x3_11 x4_12
  else
    f_X7_best_J149 x6_13 ((100 * x5_8) + x6_13) s17
def f_X7_best_J100 (m3 : Mem) (x5_8 : Int32) (x3_11 : Int32) (x4_12 : Int32) (x6_13 : Int32) (s16 : Int32) : Option ((Int32 × Int32 × Int32) ⊕ (Int32 × Int32)) :=
  if s16 = 0 then
    f_X7_best_J127 x5_8 x3_11 x4_12 x6_13 (-1000000005)
  else
    bn1 (f_X2_howManyTurned 21 x5_8 x6_13 m3) fun v20 =>
    f_X7_best_J127 x5_8 x3_11 x4_12 x6_13 v20
def f_X7_best_J92 (m3 : Mem) (x5_8 : Int32) (x3_11 : Int32) (x4_12 : Int32) (x6_13 : Int32) (v14 : Int32) (s15 : Int32) : Option ((Int32 × Int32 × Int32) ⊕ (Int32 × Int32)) :=
  if v14 = s15 then
    f_X7_best_J100 m3 x5_8 x3_11 x4_12 x6_13 1
  else
    f_X7_best_J100 m3 x5_8 x3_11 x4_12 x6_13 0
def f_X7_best_L60 (a0 : Int32) (m3 : Mem) (x5_8 : Int32) (x3_11 : Int32) (x4_12 : Int32) (x6_13 : Int32) : Option ((Int32 × Int32 × Int32) ⊕ (Int32 × Int32)) :=
  if (m3 21 5) ≤ x6_13 then
    some (.inr (x3_11, x4_12))
  else
    bn1 (f_X6_areFriends 21 x5_8 x6_13 m3) fun v14 =>
    if a0 = 0 then
      f_X7_best_J92 m3 x5_8 x3_11 x4_12 x6_13 v14 1
    else
      f_X7_best_J92 m3 x5_8 x3_11 x4_12 x6_13 v14 0
def f_X7_best_L42 (a0 : Int32) (m3 : Mem) (x3_6 : Int32) (x4_7 : Int32) (x5_8 : Int32) : Option ((Int32 × Int32 × Int32) ⊕ (Int32 × Int32)) :=
  if (m3 21 5) ≤ x5_8 then
    some (.inr (x3_6, x4_7))
  else
    bn1 (lpF (fun v => f_X7_best_L60 a0 m3 x5_8 v.1 v.2.1 v.2.2) 4000 (x3_6, x4_7, (x5_8 + 1))) (fun x => f_X7_best_K60_155 x5_8 x.1 x.2)
def f_X7_best (a0 : Int32) (a1 : Int32) (μ : Mem) : Option (Int32 × Mem) :=
  bn1 (f_X7_outside a0 0 1) fun v1 =>
  if v1 = 0 then
    bn1 (f_X7_outside a1 0 1) fun v2 =>
    if v2 = 0 then
      bn1 (f_X2_scan 21 μ) fun m3 =>
      bn1 (lpF (fun v => f_X7_best_L42 a0 m3 v.1 v.2.1 v.2.2) 4000 ((-1000000005), (-1000000005), 0)) (fun x => f_X7_best_K42_161 a1 m3 x.1 x.2)
    else
      some ((-1000000001), μ)
  else
    some ((-1000000001), μ)
set_option maxRecDepth 100000 in
set_option maxHeartbeats 4000000 in
theorem c_X7_best {Y : SYS} (hC : IsC Y) {a0 : Int32} {a1 : Int32} {μ : Mem} {x : Int32} {m : Mem} (hf : f_X7_best a0 a1 μ = some (x, m)) : KC Y yX7_best cX7_best 9 (some .int) 5 [.ref (sq Y 0), .int a0, .int a1] μ (some (.int x)) m := by
  refine KC.I RX7 [(0, .ref (sq Y 0)), (1, .int a0), (2, .int a1)] (by decide) rfl (Nat.le_of_ble_eq_true rfl) rfl (fun G Γ ret => ?_)
  unfold f_X7_best at hf
  refine g_iload_n Γ (pc := 0) 1 dX7_best_0 rfl rfl ?_
  refine g_iconst Γ (pc := 1) (v := 0) dX7_best_1 rfl ?_
  refine g_iconst Γ (pc := 2) (v := 1) dX7_best_2 rfl ?_
  obtain ⟨v1, h1, hf⟩ := bn1_i hf
  refine g_callSI Γ (pc := 3) (as := [.int a0, .int 0, .int 1]) (st := []) dX7_best_3 (c_X7_outside h1) mi_X7_outside ms_X7_outside kM_X7_71 rfl ⟨Nat.le_of_ble_eq_true rfl, Nat.le_of_ble_eq_true rfl⟩ rfl (Nat.le_of_ble_eq_true rfl) ?_
  refine g_if_ne Γ (pc := 6) (tgt := 18) dX7_best_6 rfl hf (fun hf => ?_) (fun hf => ?_)
  · refine g_ldc Γ (pc := 18) dX7_best_18 kK_X7_75 ?_
    exact rI ret dX7_best_20 hf
  · refine g_iload_n Γ (pc := 9) 2 dX7_best_9 rfl rfl ?_
    refine g_iconst Γ (pc := 10) (v := 0) dX7_best_10 rfl ?_
    refine g_iconst Γ (pc := 11) (v := 1) dX7_best_11 rfl ?_
    obtain ⟨v2, h1, hf⟩ := bn1_i hf
    refine g_callSI Γ (pc := 12) (as := [.int a1, .int 0, .int 1]) (st := []) dX7_best_12 (c_X7_outside h1) mi_X7_outside ms_X7_outside kM_X7_71 rfl ⟨Nat.le_of_ble_eq_true rfl, Nat.le_of_ble_eq_true rfl⟩ rfl (Nat.le_of_ble_eq_true rfl) ?_
    refine g_if_eq Γ (pc := 15) (tgt := 21) dX7_best_15 rfl hf (fun hf => ?_) (fun hf => ?_)
    · refine g_aload_n Γ (pc := 21) 0 dX7_best_21 rfl rfl ?_
      refine g_get Γ (pc := 22) (v := .ref (sq Y 36)) dX7_best_22 (C_main hC) fr_X7_34 rfl ?_
      refine g_aload_n Γ (pc := 25) 0 dX7_best_25 rfl rfl ?_
      refine g_get Γ (pc := 26) (v := .ref (sq Y 21)) dX7_best_26 (C_main hC) fr_X7_21 rfl ?_
      obtain ⟨m3, h1, hf⟩ := bn1_i hf
      refine g_callVV Γ (pc := 29) (as := [.ref (sq Y 21)]) (st := []) dX7_best_29 (c_X2_scan hC (Or.inl rfl) h1) (C_order hC) rfl mi_X2_scan mv_X2_scan kM_X7_179 rfl ⟨Nat.le_of_ble_eq_true rfl, Nat.le_of_ble_eq_true rfl⟩ rfl (Nat.le_of_ble_eq_true rfl) ?_
      refine g_ldc Γ (pc := 32) dX7_best_32 kK_X7_197 ?_
      refine g_istore_n Γ (pc := 34) (lv' := [(3, .int (-1000000005)), (0, .ref (sq Y 0)), (1, .int a0), (2, .int a1)]) dX7_best_34 rfl (by decide) rfl ?_
      refine g_ldc Γ (pc := 35) dX7_best_35 kK_X7_197 ?_
      refine g_istore Γ (pc := 37) (lv' := [(4, .int (-1000000005)), (3, .int (-1000000005)), (0, .ref (sq Y 0)), (1, .int a0), (2, .int a1)]) dX7_best_37 (by decide) rfl ?_
      refine g_iconst Γ (pc := 39) (v := 0) dX7_best_39 rfl ?_
      refine g_istore Γ (pc := 40) (lv' := [(5, .int 0), (4, .int (-1000000005)), (3, .int (-1000000005)), (0, .ref (sq Y 0)), (1, .int a0), (2, .int a1)]) dX7_best_40 (by decide) rfl ?_
      have K_42_161 : ∀ (y3_4 : Int32) (y4_5 : Int32), f_X7_best_K42_161 a1 m3 y3_4 y4_5 = some (x, m) → G 161 [(2, .int a1), (3, .int y3_4), (4, .int y4_5)] [] m3 := by
        intro y3_4 y4_5 hf
        unfold f_X7_best_K42_161 at hf
        refine g_iload_n Γ (pc := 161) 0 dX7_best_161 rfl rfl ?_
        refine g_if_ne Γ (pc := 162) (tgt := 169) dX7_best_162 rfl hf (fun hf => ?_) (fun hf => ?_)
        · refine g_iload Γ (pc := 169) 2 dX7_best_169 rfl ?_
          exact rI ret dX7_best_171 hf
        · refine g_iload_n Γ (pc := 165) 1 dX7_best_165 rfl rfl ?_
          refine g_goto Γ (pc := 166) (tgt := 171) dX7_best_166 rfl ?_
          exact rI ret dX7_best_171 hf
      refine g_sub Γ [3, 4, 5, 2, 1, 0] rfl ?_
      refine lpF_s (P := fun (v : Int32 × Int32 × Int32) => G 42 [(0, .ref (sq Y 0)), (1, .int a0), (2, .int a1), (3, .int v.1), (4, .int v.2.1), (5, .int v.2.2)] [] m3) hf (fun v z1 hf kI1 kX1 => ?_)
      obtain ⟨x3_6, x4_7, x5_8⟩ := v
      replace hf : f_X7_best_L42 a0 m3 x3_6 x4_7 x5_8 = some z1 := hf
      show G 42 [(0, .ref (sq Y 0)), (1, .int a0), (2, .int a1), (3, .int x3_6), (4, .int x4_7), (5, .int x5_8)] [] m3
      unfold f_X7_best_L42 at hf
      refine g_iload Γ (pc := 42) 5 dX7_best_42 rfl ?_
      refine g_aload_n Γ (pc := 44) 0 dX7_best_44 rfl rfl ?_
      refine g_get Γ (pc := 45) (v := .ref (sq Y 21)) dX7_best_45 (C_main hC) fr_X7_21 rfl ?_
      refine g_get Γ (pc := 48) (v := .int (m3 21 5)) dX7_best_48 (C_town hC (Or.inl rfl)) fr_X7_76 rfl ?_
      refine g_icmp_ge Γ (pc := 51) (tgt := 161) dX7_best_51 rfl hf (fun hf => ?_) (fun hf => ?_)
      · refine g_sub Γ [2, 3, 4] rfl ?_
        exact K_42_161 x3_6 x4_7 (kX1 (x3_6, x4_7) (Option.some.inj hf).symm)
      · refine g_iload Γ (pc := 54) 5 dX7_best_54 rfl ?_
        refine g_iconst Γ (pc := 56) (v := 1) dX7_best_56 rfl ?_
        refine g_iadd Γ (pc := 57) dX7_best_57 ?_
        refine g_istore Γ (pc := 58) (lv' := [(6, .int (x5_8 + 1)), (0, .ref (sq Y 0)), (1, .int a0), (2, .int a1), (3, .int x3_6), (4, .int x4_7), (5, .int x5_8)]) dX7_best_58 (by decide) rfl ?_
        have K_60_155 : ∀ (y3_9 : Int32) (y4_10 : Int32), f_X7_best_K60_155 x5_8 y3_9 y4_10 = some z1 → G 155 [(0, .ref (sq Y 0)), (1, .int a0), (2, .int a1), (3, .int y3_9), (4, .int y4_10), (5, .int x5_8)] [] m3 := by
          intro y3_9 y4_10 hf
          unfold f_X7_best_K60_155 at hf
          refine g_iinc Γ (pc := 155) (v := x5_8 + 1) (lv' := [(5, .int (x5_8 + 1)), (0, .ref (sq Y 0)), (1, .int a0), (2, .int a1), (3, .int y3_9), (4, .int y4_10)]) 5 dX7_best_155 rfl rfl (by decide) rfl ?_
          refine g_goto Γ (pc := 158) (tgt := 42) dX7_best_158 rfl ?_
          refine g_sub Γ [1, 2, 3, 4, 5, 0] rfl ?_
          exact kI1 (y3_9, y4_10, x5_8 + 1) (Option.some.inj hf).symm
        refine g_sub Γ [1, 2, 3, 4, 5, 6, 0] rfl ?_
        refine lpF_s (P := fun (v : Int32 × Int32 × Int32) => G 60 [(0, .ref (sq Y 0)), (1, .int a0), (2, .int a1), (3, .int v.1), (4, .int v.2.1), (5, .int x5_8), (6, .int v.2.2)] [] m3) hf (fun v z2 hf kI2 kX2 => ?_)
        obtain ⟨x3_11, x4_12, x6_13⟩ := v
        replace hf : f_X7_best_L60 a0 m3 x5_8 x3_11 x4_12 x6_13 = some z2 := hf
        show G 60 [(0, .ref (sq Y 0)), (1, .int a0), (2, .int a1), (3, .int x3_11), (4, .int x4_12), (5, .int x5_8), (6, .int x6_13)] [] m3
        unfold f_X7_best_L60 at hf
        refine g_iload Γ (pc := 60) 6 dX7_best_60 rfl ?_
        refine g_aload_n Γ (pc := 62) 0 dX7_best_62 rfl rfl ?_
        refine g_get Γ (pc := 63) (v := .ref (sq Y 21)) dX7_best_63 (C_main hC) fr_X7_21 rfl ?_
        refine g_get Γ (pc := 66) (v := .int (m3 21 5)) dX7_best_66 (C_town hC (Or.inl rfl)) fr_X7_76 rfl ?_
        refine g_icmp_ge Γ (pc := 69) (tgt := 155) dX7_best_69 rfl hf (fun hf => ?_) (fun hf => ?_)
        · refine g_sub Γ [0, 1, 2, 3, 4, 5] rfl ?_
          exact K_60_155 x3_11 x4_12 (kX2 (x3_11, x4_12) (Option.some.inj hf).symm)
        · refine g_aload_n Γ (pc := 72) 0 dX7_best_72 rfl rfl ?_
          refine g_get Γ (pc := 73) (v := .ref (sq Y 21)) dX7_best_73 (C_main hC) fr_X7_21 rfl ?_
          refine g_iload Γ (pc := 76) 5 dX7_best_76 rfl ?_
          refine g_iload Γ (pc := 78) 6 dX7_best_78 rfl ?_
          obtain ⟨v14, h1, hf⟩ := bn1_i hf
          refine g_callVI Γ (pc := 80) (as := [.int x5_8, .int x6_13]) (st := []) dX7_best_80 (c_X6_areFriends hC (Or.inl rfl) h1) (C_town hC (Or.inl rfl)) rfl mi_X6_areFriends mv_X6_areFriends kM_X7_137 rfl ⟨Nat.le_of_ble_eq_true rfl, Nat.le_of_ble_eq_true rfl⟩ rfl (Nat.le_of_ble_eq_true rfl) ?_
          refine g_iload_n Γ (pc := 83) 1 dX7_best_83 rfl rfl ?_
          have J_92 : ∀ (s15 : Int32), f_X7_best_J92 m3 x5_8 x3_11 x4_12 x6_13 v14 s15 = some z2 → G 92 [(0, .ref (sq Y 0)), (1, .int a0), (2, .int a1), (3, .int x3_11), (4, .int x4_12), (5, .int x5_8), (6, .int x6_13)] [.int s15, .int v14] m3 := by
            intro s15 hf
            unfold f_X7_best_J92 at hf
            have J_100 : ∀ (s16 : Int32), f_X7_best_J100 m3 x5_8 x3_11 x4_12 x6_13 s16 = some z2 → G 100 [(0, .ref (sq Y 0)), (1, .int a0), (2, .int a1), (3, .int x3_11), (4, .int x4_12), (5, .int x5_8), (6, .int x6_13)] [.int s16] m3 := by
              intro s16 hf
              unfold f_X7_best_J100 at hf
              refine g_istore Γ (pc := 100) (lv' := [(7, .int s16), (0, .ref (sq Y 0)), (1, .int a0), (2, .int a1), (3, .int x3_11), (4, .int x4_12), (5, .int x5_8), (6, .int x6_13)]) dX7_best_100 (by decide) rfl ?_
              refine g_iload Γ (pc := 102) 0 dX7_best_102 rfl ?_
              have J_127 : ∀ (s17 : Int32), f_X7_best_J127 x5_8 x3_11 x4_12 x6_13 s17 = some z2 → G 127 [(0, .ref (sq Y 0)), (1, .int a0), (2, .int a1), (3, .int x3_11), (4, .int x4_12), (5, .int x5_8), (6, .int x6_13)] [.int s17] m3 := by
                intro s17 hf
                unfold f_X7_best_J127 at hf
                refine g_istore Γ (pc := 127) (lv' := [(8, .int s17), (0, .ref (sq Y 0)), (1, .int a0), (2, .int a1), (3, .int x3_11), (4, .int x4_12), (5, .int x5_8), (6, .int x6_13)]) dX7_best_127 (by decide) rfl ?_
                refine g_iload Γ (pc := 129) 0 dX7_best_129 rfl ?_
                refine g_iload Γ (pc := 131) 5 dX7_best_131 rfl ?_
                have J_149 : ∀ (x3_18 : Int32) (x4_19 : Int32), f_X7_best_J149 x6_13 x3_18 x4_19 = some z2 → G 149 [(0, .ref (sq Y 0)), (1, .int a0), (2, .int a1), (3, .int x3_18), (4, .int x4_19), (5, .int x5_8), (6, .int x6_13)] [] m3 := by
                  intro x3_18 x4_19 hf
                  unfold f_X7_best_J149 at hf
                  refine g_iinc Γ (pc := 149) (v := x6_13 + 1) (lv' := [(6, .int (x6_13 + 1)), (0, .ref (sq Y 0)), (1, .int a0), (2, .int a1), (3, .int x3_18), (4, .int x4_19), (5, .int x5_8)]) 6 dX7_best_149 rfl rfl (by decide) rfl ?_
                  refine g_goto Γ (pc := 152) (tgt := 60) dX7_best_152 rfl ?_
                  refine g_sub Γ [1, 2, 3, 4, 5, 6, 0] rfl ?_
                  exact kI2 (x3_18, x4_19, x6_13 + 1) (Option.some.inj hf).symm
                refine g_icmp_le Γ (pc := 133) (tgt := 149) dX7_best_133 rfl hf (fun hf => ?_) (fun hf => ?_)
                · refine g_sub Γ [1, 2, 3, 4, 5, 6, 7] rfl ?_
                  exact J_149 x3_11 x4_12 hf
                · refine g_iload Γ (pc := 136) 0 dX7_best_136 rfl ?_
                  refine g_istore Γ (pc := 138) (lv' := [(4, .int s17), (8, .int s17), (0, .ref (sq Y 0)), (1, .int a0), (2, .int a1), (3, .int x3_11), (5, .int x5_8), (6, .int x6_13)]) dX7_best_138 (by decide) rfl ?_
                  refine g_bipush Γ (pc := 140) (v := 100) dX7_best_140 rfl ?_
                  refine g_iload Γ (pc := 142) 6 dX7_best_142 rfl ?_
                  refine g_imul Γ (pc := 144) dX7_best_144 ?_
                  refine g_iload Γ (pc := 145) 7 dX7_best_145 rfl ?_
                  refine g_iadd Γ (pc := 147) dX7_best_147 ?_
                  refine g_istore_n Γ (pc := 148) (lv' := [(3, .int ((100 * x5_8) + x6_13)), (4, .int s17), (8, .int s17), (0, .ref (sq Y 0)), (1, .int a0), (2, .int a1), (5, .int x5_8), (6, .int x6_13)]) dX7_best_148 rfl (by decide) rfl ?_
                  refine g_sub Γ [3, 4, 5, 0, 1, 6, 7] rfl ?_
                  exact J_149 ((100 * x5_8) + x6_13) s17 hf
              refine g_if_eq Γ (pc := 104) (tgt := 125) dX7_best_104 rfl hf (fun hf => ?_) (fun hf => ?_)
              · refine g_ldc Γ (pc := 125) dX7_best_125 kK_X7_197 ?_
                refine g_sub Γ [1, 2, 3, 4, 5, 6, 7] rfl ?_
                exact J_127 (-1000000005) hf
              · refine g_aload_n Γ (pc := 107) 1 dX7_best_107 rfl rfl ?_
                refine g_get Γ (pc := 108) (v := .ref (sq Y 36)) dX7_best_108 (C_main hC) fr_X7_34 rfl ?_
                refine g_aload_n Γ (pc := 111) 1 dX7_best_111 rfl rfl ?_
                refine g_get Γ (pc := 112) (v := .ref (sq Y 21)) dX7_best_112 (C_main hC) fr_X7_21 rfl ?_
                refine g_iload Γ (pc := 115) 6 dX7_best_115 rfl ?_
                refine g_iload Γ (pc := 117) 7 dX7_best_117 rfl ?_
                obtain ⟨v20, h1, hf⟩ := bn1_i hf
                refine g_callVI Γ (pc := 119) (as := [.ref (sq Y 21), .int x5_8, .int x6_13]) (st := []) dX7_best_119 (c_X2_howManyTurned hC (Or.inl rfl) h1) (C_order hC) rfl mi_X2_howManyTurned mv_X2_howManyTurned kM_X7_198 rfl ⟨Nat.le_of_ble_eq_true rfl, Nat.le_of_ble_eq_true rfl⟩ rfl (Nat.le_of_ble_eq_true rfl) ?_
                refine g_goto Γ (pc := 122) (tgt := 127) dX7_best_122 rfl ?_
                refine g_sub Γ [1, 2, 3, 4, 5, 6, 7] rfl ?_
                exact J_127 v20 hf
            refine g_icmp_ne Γ (pc := 92) (tgt := 99) dX7_best_92 rfl hf (fun hf => ?_) (fun hf => ?_)
            · refine g_iconst Γ (pc := 99) (v := 0) dX7_best_99 rfl ?_
              refine g_sub Γ [0, 1, 2, 3, 4, 5, 6] rfl ?_
              exact J_100 0 hf
            · refine g_iconst Γ (pc := 95) (v := 1) dX7_best_95 rfl ?_
              refine g_goto Γ (pc := 96) (tgt := 100) dX7_best_96 rfl ?_
              refine g_sub Γ [0, 1, 2, 3, 4, 5, 6] rfl ?_
              exact J_100 1 hf
          refine g_if_ne Γ (pc := 84) (tgt := 91) dX7_best_84 rfl hf (fun hf => ?_) (fun hf => ?_)
          · refine g_iconst Γ (pc := 91) (v := 0) dX7_best_91 rfl ?_
            refine g_sub Γ [0, 1, 2, 3, 4, 5, 6] rfl ?_
            exact J_92 0 hf
          · refine g_iconst Γ (pc := 87) (v := 1) dX7_best_87 rfl ?_
            refine g_goto Γ (pc := 88) (tgt := 92) dX7_best_88 rfl ?_
            refine g_sub Γ [0, 1, 2, 3, 4, 5, 6] rfl ?_
            exact J_92 1 hf
    · refine g_ldc Γ (pc := 18) dX7_best_18 kK_X7_75 ?_
      exact rI ret dX7_best_20 hf
def f_X7_years (a0 : Int32) (μ : Mem) : Option (Int32 × Mem) :=
  bn1 (f_X7_outside a0 1 100) fun v1 =>
  if v1 = 0 then
    nm (if (9999 - (μ 21 12)) < a0 then (9999 - (μ 21 12)) else a0) fun e2 =>
    bn1 (f_X6_pass 21 e2 μ) fun m3 =>
    some (((m3 21 11) - (μ 21 11)), m3)
  else
    some ((-1000000001), μ)
set_option maxRecDepth 100000 in
set_option maxHeartbeats 4000000 in
theorem c_X7_years {Y : SYS} (hC : IsC Y) {a0 : Int32} {μ : Mem} {x : Int32} {m : Mem} (hf : f_X7_years a0 μ = some (x, m)) : KC Y yX7_years cX7_years 3 (some .int) 7 [.ref (sq Y 0), .int a0] μ (some (.int x)) m := by
  refine KC.I RX7 [(0, .ref (sq Y 0)), (1, .int a0)] (by decide) rfl (Nat.le_of_ble_eq_true rfl) rfl (fun G Γ ret => ?_)
  unfold f_X7_years at hf
  refine g_iload_n Γ (pc := 0) 1 dX7_years_0 rfl rfl ?_
  refine g_iconst Γ (pc := 1) (v := 1) dX7_years_1 rfl ?_
  refine g_bipush Γ (pc := 2) (v := 100) dX7_years_2 rfl ?_
  obtain ⟨v1, h1, hf⟩ := bn1_i hf
  refine g_callSI Γ (pc := 4) (as := [.int a0, .int 1, .int 100]) (st := []) dX7_years_4 (c_X7_outside h1) mi_X7_outside ms_X7_outside kM_X7_71 rfl ⟨Nat.le_of_ble_eq_true rfl, Nat.le_of_ble_eq_true rfl⟩ rfl (Nat.le_of_ble_eq_true rfl) ?_
  refine g_if_eq Γ (pc := 7) (tgt := 13) dX7_years_7 rfl hf (fun hf => ?_) (fun hf => ?_)
  · refine g_aload_n Γ (pc := 13) 0 dX7_years_13 rfl rfl ?_
    refine g_get Γ (pc := 14) (v := .ref (sq Y 21)) dX7_years_14 (C_main hC) fr_X7_21 rfl ?_
    refine g_get Γ (pc := 17) (v := .int (μ 21 11)) dX7_years_17 (C_town hC (Or.inl rfl)) fr_X7_167 rfl ?_
    refine g_istore_n Γ (pc := 20) (lv' := [(2, .int (μ 21 11)), (0, .ref (sq Y 0)), (1, .int a0)]) dX7_years_20 rfl (by decide) rfl ?_
    refine g_aload_n Γ (pc := 21) 1 dX7_years_21 rfl rfl ?_
    refine g_get Γ (pc := 22) (v := .ref (sq Y 21)) dX7_years_22 (C_main hC) fr_X7_21 rfl ?_
    refine g_iload_n Γ (pc := 25) 2 dX7_years_25 rfl rfl ?_
    refine g_sipush Γ (pc := 26) (v := 9999) dX7_years_26 rfl ?_
    refine g_aload_n Γ (pc := 29) 1 dX7_years_29 rfl rfl ?_
    refine g_get Γ (pc := 30) (v := .ref (sq Y 21)) dX7_years_30 (C_main hC) fr_X7_21 rfl ?_
    refine g_get Γ (pc := 33) (v := .int (μ 21 12)) dX7_years_33 (C_town hC (Or.inl rfl)) fr_X7_202 rfl ?_
    refine g_isub Γ (pc := 36) dX7_years_36 ?_
    refine g_min Γ (pc := 37) dX7_years_37 kM_X7_149 kS_Math_min kI_J9 kC_Math_min (Nat.le_of_ble_eq_true rfl) (Nat.le_of_ble_eq_true rfl) ?_
    refine g_nmi hf (fun e2 hf => ?_)
    obtain ⟨m3, h1, hf⟩ := bn1_i hf
    refine g_callVV Γ (pc := 40) (as := [.int e2]) (st := []) dX7_years_40 (c_X6_pass hC (Or.inl rfl) h1) (C_town hC (Or.inl rfl)) rfl mi_X6_pass mv_X6_pass kM_X7_205 rfl ⟨Nat.le_of_ble_eq_true rfl, Nat.le_of_ble_eq_true rfl⟩ rfl (Nat.le_of_ble_eq_true rfl) ?_
    refine g_aload_n Γ (pc := 43) 1 dX7_years_43 rfl rfl ?_
    refine g_get Γ (pc := 44) (v := .ref (sq Y 21)) dX7_years_44 (C_main hC) fr_X7_21 rfl ?_
    refine g_get Γ (pc := 47) (v := .int (m3 21 11)) dX7_years_47 (C_town hC (Or.inl rfl)) fr_X7_167 rfl ?_
    refine g_iload_n Γ (pc := 50) 0 dX7_years_50 rfl rfl ?_
    refine g_isub Γ (pc := 51) dX7_years_51 ?_
    exact rI ret dX7_years_52 hf
  · refine g_ldc Γ (pc := 10) dX7_years_10 kK_X7_75 ?_
    exact rI ret dX7_years_12 hf
def f_X7_behind (a0 : Int32) (a1 : Int32) (μ : Mem) : Option (Int32 × Mem) :=
  bn1 (f_X7_outside a0 0 100) fun v1 =>
  if v1 = 0 then
    bn1 (f_X7_outside a1 0 3) fun v2 =>
    if v2 = 0 then
      bn1 (f_X6_become 31 21 μ) fun m3 =>
      bn1 (f_X6_pass 31 a0 m3) fun m4 =>
      if a1 = 0 then
        bn1 (f_X6_offTogether 31 m4) fun v5 =>
        some (v5, m4)
      else
        if a1 = 1 then
          some ((m4 31 10), m4)
        else
          if a1 = 2 then
            some ((m4 31 11), m4)
          else
            some ((m4 31 6), m4)
    else
      some ((-1000000001), μ)
  else
    some ((-1000000001), μ)
set_option maxRecDepth 100000 in
set_option maxHeartbeats 4000000 in
theorem c_X7_behind {Y : SYS} (hC : IsC Y) {a0 : Int32} {a1 : Int32} {μ : Mem} {x : Int32} {m : Mem} (hf : f_X7_behind a0 a1 μ = some (x, m)) : KC Y yX7_behind cX7_behind 3 (some .int) 7 [.ref (sq Y 0), .int a0, .int a1] μ (some (.int x)) m := by
  refine KC.I RX7 [(0, .ref (sq Y 0)), (1, .int a0), (2, .int a1)] (by decide) rfl (Nat.le_of_ble_eq_true rfl) rfl (fun G Γ ret => ?_)
  unfold f_X7_behind at hf
  refine g_iload_n Γ (pc := 0) 1 dX7_behind_0 rfl rfl ?_
  refine g_iconst Γ (pc := 1) (v := 0) dX7_behind_1 rfl ?_
  refine g_bipush Γ (pc := 2) (v := 100) dX7_behind_2 rfl ?_
  obtain ⟨v1, h1, hf⟩ := bn1_i hf
  refine g_callSI Γ (pc := 4) (as := [.int a0, .int 0, .int 100]) (st := []) dX7_behind_4 (c_X7_outside h1) mi_X7_outside ms_X7_outside kM_X7_71 rfl ⟨Nat.le_of_ble_eq_true rfl, Nat.le_of_ble_eq_true rfl⟩ rfl (Nat.le_of_ble_eq_true rfl) ?_
  refine g_if_ne Γ (pc := 7) (tgt := 19) dX7_behind_7 rfl hf (fun hf => ?_) (fun hf => ?_)
  · refine g_ldc Γ (pc := 19) dX7_behind_19 kK_X7_75 ?_
    exact rI ret dX7_behind_21 hf
  · refine g_iload_n Γ (pc := 10) 2 dX7_behind_10 rfl rfl ?_
    refine g_iconst Γ (pc := 11) (v := 0) dX7_behind_11 rfl ?_
    refine g_iconst Γ (pc := 12) (v := 3) dX7_behind_12 rfl ?_
    obtain ⟨v2, h1, hf⟩ := bn1_i hf
    refine g_callSI Γ (pc := 13) (as := [.int a1, .int 0, .int 3]) (st := []) dX7_behind_13 (c_X7_outside h1) mi_X7_outside ms_X7_outside kM_X7_71 rfl ⟨Nat.le_of_ble_eq_true rfl, Nat.le_of_ble_eq_true rfl⟩ rfl (Nat.le_of_ble_eq_true rfl) ?_
    refine g_if_eq Γ (pc := 16) (tgt := 22) dX7_behind_16 rfl hf (fun hf => ?_) (fun hf => ?_)
    · refine g_aload_n Γ (pc := 22) 0 dX7_behind_22 rfl rfl ?_
      refine g_get Γ (pc := 23) (v := .ref (sq Y 31)) dX7_behind_23 (C_main hC) fr_X7_28 rfl ?_
      refine g_aload_n Γ (pc := 26) 0 dX7_behind_26 rfl rfl ?_
      refine g_get Γ (pc := 27) (v := .ref (sq Y 21)) dX7_behind_27 (C_main hC) fr_X7_21 rfl ?_
      obtain ⟨m3, h1, hf⟩ := bn1_i hf
      refine g_callVV Γ (pc := 30) (as := [.ref (sq Y 21)]) (st := []) dX7_behind_30 (c_X6_become hC (Or.inr (Or.inr rfl)) (Or.inl rfl) h1) (C_town hC (Or.inr (Or.inr rfl))) rfl mi_X6_become mv_X6_become kM_X7_208 rfl ⟨Nat.le_of_ble_eq_true rfl, Nat.le_of_ble_eq_true rfl⟩ rfl (Nat.le_of_ble_eq_true rfl) ?_
      refine g_aload_n Γ (pc := 33) 0 dX7_behind_33 rfl rfl ?_
      refine g_get Γ (pc := 34) (v := .ref (sq Y 31)) dX7_behind_34 (C_main hC) fr_X7_28 rfl ?_
      refine g_iload_n Γ (pc := 37) 1 dX7_behind_37 rfl rfl ?_
      obtain ⟨m4, h1, hf⟩ := bn1_i hf
      refine g_callVV Γ (pc := 38) (as := [.int a0]) (st := []) dX7_behind_38 (c_X6_pass hC (Or.inr (Or.inr rfl)) h1) (C_town hC (Or.inr (Or.inr rfl))) rfl mi_X6_pass mv_X6_pass kM_X7_205 rfl ⟨Nat.le_of_ble_eq_true rfl, Nat.le_of_ble_eq_true rfl⟩ rfl (Nat.le_of_ble_eq_true rfl) ?_
      refine g_iload_n Γ (pc := 41) 2 dX7_behind_41 rfl rfl ?_
      by_cases h42_0 : a1 = 0
      · replace hf := ite_t h42_0 hf
        refine g_tin Γ (pc := 42) (tgt := 68) 0 dX7_behind_42 h42_0 (by decide) (by decide) rfl rfl ?_
        refine g_aload_n Γ (pc := 68) 0 dX7_behind_68 rfl rfl ?_
        refine g_get Γ (pc := 69) (v := .ref (sq Y 31)) dX7_behind_69 (C_main hC) fr_X7_28 rfl ?_
        obtain ⟨v5, h1, hf⟩ := bn1_i hf
        refine g_callVI Γ (pc := 72) (as := []) (st := []) dX7_behind_72 (c_X6_offTogether hC (Or.inr (Or.inr rfl)) h1) (C_town hC (Or.inr (Or.inr rfl))) rfl mi_X6_offTogether mv_X6_offTogether kM_X7_161 rfl ⟨Nat.le_of_ble_eq_true rfl, Nat.le_of_ble_eq_true rfl⟩ rfl (Nat.le_of_ble_eq_true rfl) ?_
        exact rI ret dX7_behind_75 hf
      · replace hf := ite_f h42_0 hf
        by_cases h42_1 : a1 = 1
        · replace hf := ite_t h42_1 hf
          refine g_tin Γ (pc := 42) (tgt := 76) 1 dX7_behind_42 h42_1 (by decide) (by decide) rfl rfl ?_
          refine g_aload_n Γ (pc := 76) 0 dX7_behind_76 rfl rfl ?_
          refine g_get Γ (pc := 77) (v := .ref (sq Y 31)) dX7_behind_77 (C_main hC) fr_X7_28 rfl ?_
          refine g_get Γ (pc := 80) (v := .int (m4 31 10)) dX7_behind_80 (C_town hC (Or.inr (Or.inr rfl))) fr_X7_164 rfl ?_
          exact rI ret dX7_behind_83 hf
        · replace hf := ite_f h42_1 hf
          by_cases h42_2 : a1 = 2
          · replace hf := ite_t h42_2 hf
            refine g_tin Γ (pc := 42) (tgt := 84) 2 dX7_behind_42 h42_2 (by decide) (by decide) rfl rfl ?_
            refine g_aload_n Γ (pc := 84) 0 dX7_behind_84 rfl rfl ?_
            refine g_get Γ (pc := 85) (v := .ref (sq Y 31)) dX7_behind_85 (C_main hC) fr_X7_28 rfl ?_
            refine g_get Γ (pc := 88) (v := .int (m4 31 11)) dX7_behind_88 (C_town hC (Or.inr (Or.inr rfl))) fr_X7_167 rfl ?_
            exact rI ret dX7_behind_91 hf
          · replace hf := ite_f h42_2 hf
            refine g_tableOut Γ (pc := 42) (tgt := 92) dX7_behind_42 (by have e0 := ne_ti (k := 0) rfl h42_0; have e1 := ne_ti (k := 1) rfl h42_1; have e2 := ne_ti (k := 2) rfl h42_2; omega) rfl ?_
            refine g_aload_n Γ (pc := 92) 0 dX7_behind_92 rfl rfl ?_
            refine g_get Γ (pc := 93) (v := .ref (sq Y 31)) dX7_behind_93 (C_main hC) fr_X7_28 rfl ?_
            refine g_get Γ (pc := 96) (v := .int (m4 31 6)) dX7_behind_96 (C_town hC (Or.inr (Or.inr rfl))) fr_X7_170 rfl ?_
            exact rI ret dX7_behind_99 hf
    · refine g_ldc Γ (pc := 19) dX7_behind_19 kK_X7_75 ?_
      exact rI ret dX7_behind_21 hf
def f_X7_settles_K13_37 (y1_2 : Int32) (m3 : Mem) : Option (Int32 × Mem) :=
  some (y1_2, m3)
def f_X7_settles_K13_53 (m4 : Mem) : Option (Int32 × Mem) :=
  some ((-1000000005), m4)
def f_X7_settles_L13 (x1_5 : Int32) (m6 : Mem) : Option ((Int32 × Mem) ⊕ ((Int32 × Mem) ⊕ Mem)) :=
  if 200 < x1_5 then
    some (.inr (.inr m6))
  else
    bn1 (f_X6_unruly 31 (m6 31 6) m6) fun v7 =>
    if v7 = 0 then
      some (.inr (.inl (x1_5, m6)))
    else
      bn1 (f_X6_pass 31 1 m6) fun m8 =>
      some (.inl (x1_5 + 1, m8))
def f_X7_settles (μ : Mem) : Option (Int32 × Mem) :=
  bn1 (f_X6_become 31 21 μ) fun m1 =>
  bn1 (lpF (fun v => f_X7_settles_L13 v.1 v.2) 4000 (0, m1)) (fun x => cs2 x (fun y => f_X7_settles_K13_37 y.1 y.2) (fun x0 => f_X7_settles_K13_53 x0))
set_option maxRecDepth 100000 in
set_option maxHeartbeats 4000000 in
theorem c_X7_settles {Y : SYS} (hC : IsC Y) {μ : Mem} {x : Int32} {m : Mem} (hf : f_X7_settles μ = some (x, m)) : KC Y yX7_settles cX7_settles 2 (some .int) 7 [.ref (sq Y 0)] μ (some (.int x)) m := by
  refine KC.I RX7 [(0, .ref (sq Y 0))] (by decide) rfl (Nat.le_of_ble_eq_true rfl) rfl (fun G Γ ret => ?_)
  unfold f_X7_settles at hf
  refine g_aload_n Γ (pc := 0) 0 dX7_settles_0 rfl rfl ?_
  refine g_get Γ (pc := 1) (v := .ref (sq Y 31)) dX7_settles_1 (C_main hC) fr_X7_28 rfl ?_
  refine g_aload_n Γ (pc := 4) 0 dX7_settles_4 rfl rfl ?_
  refine g_get Γ (pc := 5) (v := .ref (sq Y 21)) dX7_settles_5 (C_main hC) fr_X7_21 rfl ?_
  obtain ⟨m1, h1, hf⟩ := bn1_i hf
  refine g_callVV Γ (pc := 8) (as := [.ref (sq Y 21)]) (st := []) dX7_settles_8 (c_X6_become hC (Or.inr (Or.inr rfl)) (Or.inl rfl) h1) (C_town hC (Or.inr (Or.inr rfl))) rfl mi_X6_become mv_X6_become kM_X7_208 rfl ⟨Nat.le_of_ble_eq_true rfl, Nat.le_of_ble_eq_true rfl⟩ rfl (Nat.le_of_ble_eq_true rfl) ?_
  refine g_iconst Γ (pc := 11) (v := 0) dX7_settles_11 rfl ?_
  refine g_istore_n Γ (pc := 12) (lv' := [(1, .int 0), (0, .ref (sq Y 0))]) dX7_settles_12 rfl (by decide) rfl ?_
  have K_13_37 : ∀ (y1_2 : Int32) (m3 : Mem), f_X7_settles_K13_37 y1_2 m3 = some (x, m) → G 37 [(1, .int y1_2)] [] m3 := by
    intro y1_2 m3 hf
    unfold f_X7_settles_K13_37 at hf
    refine g_iload_n Γ (pc := 37) 0 dX7_settles_37 rfl rfl ?_
    exact rI ret dX7_settles_38 hf
  have K_13_53 : ∀ (m4 : Mem), f_X7_settles_K13_53 m4 = some (x, m) → G 53 [] [] m4 := by
    intro m4 hf
    unfold f_X7_settles_K13_53 at hf
    refine g_ldc Γ (pc := 53) dX7_settles_53 kK_X7_197 ?_
    exact rI ret dX7_settles_55 hf
  refine g_sub Γ [1, 0] rfl ?_
  refine lpF_s (P := fun (v : Int32 × Mem) => G 13 [(0, .ref (sq Y 0)), (1, .int v.1)] [] v.2) hf (fun v z1 hf kI1 kX1 => ?_)
  obtain ⟨x1_5, m6⟩ := v
  replace hf : f_X7_settles_L13 x1_5 m6 = some z1 := hf
  show G 13 [(0, .ref (sq Y 0)), (1, .int x1_5)] [] m6
  unfold f_X7_settles_L13 at hf
  refine g_iload_n Γ (pc := 13) 1 dX7_settles_13 rfl rfl ?_
  refine g_sipush Γ (pc := 14) (v := 200) dX7_settles_14 rfl ?_
  refine g_icmp_gt Γ (pc := 17) (tgt := 53) dX7_settles_17 rfl hf (fun hf => ?_) (fun hf => ?_)
  · refine g_sub Γ [] rfl ?_
    exact K_13_53 m6 (kX1 (.inr m6) (Option.some.inj hf).symm)
  · refine g_aload_n Γ (pc := 20) 0 dX7_settles_20 rfl rfl ?_
    refine g_get Γ (pc := 21) (v := .ref (sq Y 31)) dX7_settles_21 (C_main hC) fr_X7_28 rfl ?_
    refine g_aload_n Γ (pc := 24) 0 dX7_settles_24 rfl rfl ?_
    refine g_get Γ (pc := 25) (v := .ref (sq Y 31)) dX7_settles_25 (C_main hC) fr_X7_28 rfl ?_
    refine g_get Γ (pc := 28) (v := .int (m6 31 6)) dX7_settles_28 (C_town hC (Or.inr (Or.inr rfl))) fr_X7_170 rfl ?_
    obtain ⟨v7, h1, hf⟩ := bn1_i hf
    refine g_callVI Γ (pc := 31) (as := [.int (m6 31 6)]) (st := []) dX7_settles_31 (c_X6_unruly hC (Or.inr (Or.inr rfl)) h1) (C_town hC (Or.inr (Or.inr rfl))) rfl mi_X6_unruly mv_X6_unruly kM_X7_173 rfl ⟨Nat.le_of_ble_eq_true rfl, Nat.le_of_ble_eq_true rfl⟩ rfl (Nat.le_of_ble_eq_true rfl) ?_
    refine g_if_ne Γ (pc := 34) (tgt := 39) dX7_settles_34 rfl hf (fun hf => ?_) (fun hf => ?_)
    · refine g_aload_n Γ (pc := 39) 0 dX7_settles_39 rfl rfl ?_
      refine g_get Γ (pc := 40) (v := .ref (sq Y 31)) dX7_settles_40 (C_main hC) fr_X7_28 rfl ?_
      refine g_iconst Γ (pc := 43) (v := 1) dX7_settles_43 rfl ?_
      obtain ⟨m8, h1, hf⟩ := bn1_i hf
      refine g_callVV Γ (pc := 44) (as := [.int 1]) (st := []) dX7_settles_44 (c_X6_pass hC (Or.inr (Or.inr rfl)) h1) (C_town hC (Or.inr (Or.inr rfl))) rfl mi_X6_pass mv_X6_pass kM_X7_205 rfl ⟨Nat.le_of_ble_eq_true rfl, Nat.le_of_ble_eq_true rfl⟩ rfl (Nat.le_of_ble_eq_true rfl) ?_
      refine g_iinc Γ (pc := 47) (v := x1_5 + 1) (lv' := [(1, .int (x1_5 + 1)), (0, .ref (sq Y 0))]) 1 dX7_settles_47 rfl rfl (by decide) rfl ?_
      refine g_goto Γ (pc := 50) (tgt := 13) dX7_settles_50 rfl ?_
      refine g_sub Γ [1, 0] rfl ?_
      exact kI1 (x1_5 + 1, m8) (Option.some.inj hf).symm
    · refine g_sub Γ [1] rfl ?_
      exact K_13_37 x1_5 m6 (kX1 (.inl (x1_5, m6)) (Option.some.inj hf).symm)
def f_X7_won_K32_107 (a1 : Int32) (y3_3 : Int32) (y4_4 : Int32) (m5 : Mem) : Option (Int32 × Mem) :=
  if a1 = 0 then
    some (y3_3, m5)
  else
    some (y4_4, m5)
def f_X7_won_J101 (x5_8 : Int32) (m12 : Mem) (x3_14 : Int32) (x4_15 : Int32) : Option ((Int32 × Int32 × Int32 × Mem) ⊕ (Int32 × Int32 × Mem)) :=
  some (.inl (x3_14, x4_15, x5_8 + 1, m12))
def f_X7_won_J94 (x5_8 : Int32) (m12 : Mem) (v13 : Int32) : Option ((Int32 × Int32 × Int32 × Mem) ⊕ (Int32 × Int32 × Mem)) :=
  f_X7_won_J101 x5_8 m12 x5_8 v13
def f_X7_won_L32 (a0 : Int32) (x3_6 : Int32) (x4_7 : Int32) (x5_8 : Int32) (m9 : Mem) : Option ((Int32 × Int32 × Int32 × Mem) ⊕ (Int32 × Int32 × Mem)) :=
  if (m9 21 5) ≤ x5_8 then
    some (.inr (x3_6, x4_7, m9))
  else
    bn1 (f_X6_become 31 21 m9) fun m10 =>
    bn1 (f_X6_flip 31 x5_8 m10) fun m11 =>
    bn1 (f_X6_pass 31 a0 m11) fun m12 =>
    bn1 (f_X6_offTogether 31 m12) fun v13 =>
    if x3_6 = (-1000000005) then
      f_X7_won_J94 x5_8 m12 v13
    else
      if x4_7 ≤ v13 then
        f_X7_won_J101 x5_8 m12 x3_6 x4_7
      else
        f_X7_won_J94 x5_8 m12 v13
def f_X7_won (a0 : Int32) (a1 : Int32) (μ : Mem) : Option (Int32 × Mem) :=
  bn1 (f_X7_outside a0 1 60) fun v1 =>
  if v1 = 0 then
    bn1 (f_X7_outside a1 0 1) fun v2 =>
    if v2 = 0 then
      bn1 (lpF (fun v => f_X7_won_L32 a0 v.1 v.2.1 v.2.2.1 v.2.2.2) 4000 ((-1000000005), (-1000000005), 0, μ)) (fun x => f_X7_won_K32_107 a1 x.1 x.2.1 x.2.2)
    else
      some ((-1000000001), μ)
  else
    some ((-1000000001), μ)
set_option maxRecDepth 100000 in
set_option maxHeartbeats 4000000 in
theorem c_X7_won {Y : SYS} (hC : IsC Y) {a0 : Int32} {a1 : Int32} {μ : Mem} {x : Int32} {m : Mem} (hf : f_X7_won a0 a1 μ = some (x, m)) : KC Y yX7_won cX7_won 7 (some .int) 7 [.ref (sq Y 0), .int a0, .int a1] μ (some (.int x)) m := by
  refine KC.I RX7 [(0, .ref (sq Y 0)), (1, .int a0), (2, .int a1)] (by decide) rfl (Nat.le_of_ble_eq_true rfl) rfl (fun G Γ ret => ?_)
  unfold f_X7_won at hf
  refine g_iload_n Γ (pc := 0) 1 dX7_won_0 rfl rfl ?_
  refine g_iconst Γ (pc := 1) (v := 1) dX7_won_1 rfl ?_
  refine g_bipush Γ (pc := 2) (v := 60) dX7_won_2 rfl ?_
  obtain ⟨v1, h1, hf⟩ := bn1_i hf
  refine g_callSI Γ (pc := 4) (as := [.int a0, .int 1, .int 60]) (st := []) dX7_won_4 (c_X7_outside h1) mi_X7_outside ms_X7_outside kM_X7_71 rfl ⟨Nat.le_of_ble_eq_true rfl, Nat.le_of_ble_eq_true rfl⟩ rfl (Nat.le_of_ble_eq_true rfl) ?_
  refine g_if_ne Γ (pc := 7) (tgt := 19) dX7_won_7 rfl hf (fun hf => ?_) (fun hf => ?_)
  · refine g_ldc Γ (pc := 19) dX7_won_19 kK_X7_75 ?_
    exact rI ret dX7_won_21 hf
  · refine g_iload_n Γ (pc := 10) 2 dX7_won_10 rfl rfl ?_
    refine g_iconst Γ (pc := 11) (v := 0) dX7_won_11 rfl ?_
    refine g_iconst Γ (pc := 12) (v := 1) dX7_won_12 rfl ?_
    obtain ⟨v2, h1, hf⟩ := bn1_i hf
    refine g_callSI Γ (pc := 13) (as := [.int a1, .int 0, .int 1]) (st := []) dX7_won_13 (c_X7_outside h1) mi_X7_outside ms_X7_outside kM_X7_71 rfl ⟨Nat.le_of_ble_eq_true rfl, Nat.le_of_ble_eq_true rfl⟩ rfl (Nat.le_of_ble_eq_true rfl) ?_
    refine g_if_eq Γ (pc := 16) (tgt := 22) dX7_won_16 rfl hf (fun hf => ?_) (fun hf => ?_)
    · refine g_ldc Γ (pc := 22) dX7_won_22 kK_X7_197 ?_
      refine g_istore_n Γ (pc := 24) (lv' := [(3, .int (-1000000005)), (0, .ref (sq Y 0)), (1, .int a0), (2, .int a1)]) dX7_won_24 rfl (by decide) rfl ?_
      refine g_ldc Γ (pc := 25) dX7_won_25 kK_X7_197 ?_
      refine g_istore Γ (pc := 27) (lv' := [(4, .int (-1000000005)), (3, .int (-1000000005)), (0, .ref (sq Y 0)), (1, .int a0), (2, .int a1)]) dX7_won_27 (by decide) rfl ?_
      refine g_iconst Γ (pc := 29) (v := 0) dX7_won_29 rfl ?_
      refine g_istore Γ (pc := 30) (lv' := [(5, .int 0), (4, .int (-1000000005)), (3, .int (-1000000005)), (0, .ref (sq Y 0)), (1, .int a0), (2, .int a1)]) dX7_won_30 (by decide) rfl ?_
      have K_32_107 : ∀ (y3_3 : Int32) (y4_4 : Int32) (m5 : Mem), f_X7_won_K32_107 a1 y3_3 y4_4 m5 = some (x, m) → G 107 [(2, .int a1), (3, .int y3_3), (4, .int y4_4)] [] m5 := by
        intro y3_3 y4_4 m5 hf
        unfold f_X7_won_K32_107 at hf
        refine g_iload_n Γ (pc := 107) 0 dX7_won_107 rfl rfl ?_
        refine g_if_ne Γ (pc := 108) (tgt := 115) dX7_won_108 rfl hf (fun hf => ?_) (fun hf => ?_)
        · refine g_iload Γ (pc := 115) 2 dX7_won_115 rfl ?_
          exact rI ret dX7_won_117 hf
        · refine g_iload_n Γ (pc := 111) 1 dX7_won_111 rfl rfl ?_
          refine g_goto Γ (pc := 112) (tgt := 117) dX7_won_112 rfl ?_
          exact rI ret dX7_won_117 hf
      refine g_sub Γ [3, 4, 5, 2, 1, 0] rfl ?_
      refine lpF_s (P := fun (v : Int32 × Int32 × Int32 × Mem) => G 32 [(0, .ref (sq Y 0)), (1, .int a0), (2, .int a1), (3, .int v.1), (4, .int v.2.1), (5, .int v.2.2.1)] [] v.2.2.2) hf (fun v z1 hf kI1 kX1 => ?_)
      obtain ⟨x3_6, x4_7, x5_8, m9⟩ := v
      replace hf : f_X7_won_L32 a0 x3_6 x4_7 x5_8 m9 = some z1 := hf
      show G 32 [(0, .ref (sq Y 0)), (1, .int a0), (2, .int a1), (3, .int x3_6), (4, .int x4_7), (5, .int x5_8)] [] m9
      unfold f_X7_won_L32 at hf
      refine g_iload Γ (pc := 32) 5 dX7_won_32 rfl ?_
      refine g_aload_n Γ (pc := 34) 0 dX7_won_34 rfl rfl ?_
      refine g_get Γ (pc := 35) (v := .ref (sq Y 21)) dX7_won_35 (C_main hC) fr_X7_21 rfl ?_
      refine g_get Γ (pc := 38) (v := .int (m9 21 5)) dX7_won_38 (C_town hC (Or.inl rfl)) fr_X7_76 rfl ?_
      refine g_icmp_ge Γ (pc := 41) (tgt := 107) dX7_won_41 rfl hf (fun hf => ?_) (fun hf => ?_)
      · refine g_sub Γ [2, 3, 4] rfl ?_
        exact K_32_107 x3_6 x4_7 m9 (kX1 (x3_6, x4_7, m9) (Option.some.inj hf).symm)
      · refine g_aload_n Γ (pc := 44) 0 dX7_won_44 rfl rfl ?_
        refine g_get Γ (pc := 45) (v := .ref (sq Y 31)) dX7_won_45 (C_main hC) fr_X7_28 rfl ?_
        refine g_aload_n Γ (pc := 48) 0 dX7_won_48 rfl rfl ?_
        refine g_get Γ (pc := 49) (v := .ref (sq Y 21)) dX7_won_49 (C_main hC) fr_X7_21 rfl ?_
        obtain ⟨m10, h1, hf⟩ := bn1_i hf
        refine g_callVV Γ (pc := 52) (as := [.ref (sq Y 21)]) (st := []) dX7_won_52 (c_X6_become hC (Or.inr (Or.inr rfl)) (Or.inl rfl) h1) (C_town hC (Or.inr (Or.inr rfl))) rfl mi_X6_become mv_X6_become kM_X7_208 rfl ⟨Nat.le_of_ble_eq_true rfl, Nat.le_of_ble_eq_true rfl⟩ rfl (Nat.le_of_ble_eq_true rfl) ?_
        refine g_aload_n Γ (pc := 55) 0 dX7_won_55 rfl rfl ?_
        refine g_get Γ (pc := 56) (v := .ref (sq Y 31)) dX7_won_56 (C_main hC) fr_X7_28 rfl ?_
        refine g_iload Γ (pc := 59) 5 dX7_won_59 rfl ?_
        obtain ⟨m11, h1, hf⟩ := bn1_i hf
        refine g_callVV Γ (pc := 61) (as := [.int x5_8]) (st := []) dX7_won_61 (c_X6_flip hC (Or.inr (Or.inr rfl)) h1) (C_town hC (Or.inr (Or.inr rfl))) rfl mi_X6_flip mv_X6_flip kM_X7_133 rfl ⟨Nat.le_of_ble_eq_true rfl, Nat.le_of_ble_eq_true rfl⟩ rfl (Nat.le_of_ble_eq_true rfl) ?_
        refine g_aload_n Γ (pc := 64) 0 dX7_won_64 rfl rfl ?_
        refine g_get Γ (pc := 65) (v := .ref (sq Y 31)) dX7_won_65 (C_main hC) fr_X7_28 rfl ?_
        refine g_iload_n Γ (pc := 68) 1 dX7_won_68 rfl rfl ?_
        obtain ⟨m12, h1, hf⟩ := bn1_i hf
        refine g_callVV Γ (pc := 69) (as := [.int a0]) (st := []) dX7_won_69 (c_X6_pass hC (Or.inr (Or.inr rfl)) h1) (C_town hC (Or.inr (Or.inr rfl))) rfl mi_X6_pass mv_X6_pass kM_X7_205 rfl ⟨Nat.le_of_ble_eq_true rfl, Nat.le_of_ble_eq_true rfl⟩ rfl (Nat.le_of_ble_eq_true rfl) ?_
        refine g_aload_n Γ (pc := 72) 0 dX7_won_72 rfl rfl ?_
        refine g_get Γ (pc := 73) (v := .ref (sq Y 31)) dX7_won_73 (C_main hC) fr_X7_28 rfl ?_
        obtain ⟨v13, h1, hf⟩ := bn1_i hf
        refine g_callVI Γ (pc := 76) (as := []) (st := []) dX7_won_76 (c_X6_offTogether hC (Or.inr (Or.inr rfl)) h1) (C_town hC (Or.inr (Or.inr rfl))) rfl mi_X6_offTogether mv_X6_offTogether kM_X7_161 rfl ⟨Nat.le_of_ble_eq_true rfl, Nat.le_of_ble_eq_true rfl⟩ rfl (Nat.le_of_ble_eq_true rfl) ?_
        refine g_istore Γ (pc := 79) (lv' := [(6, .int v13), (0, .ref (sq Y 0)), (1, .int a0), (2, .int a1), (3, .int x3_6), (4, .int x4_7), (5, .int x5_8)]) dX7_won_79 (by decide) rfl ?_
        refine g_iload_n Γ (pc := 81) 4 dX7_won_81 rfl rfl ?_
        refine g_ldc Γ (pc := 82) dX7_won_82 kK_X7_197 ?_
        have J_101 : ∀ (x3_14 : Int32) (x4_15 : Int32), f_X7_won_J101 x5_8 m12 x3_14 x4_15 = some z1 → G 101 [(0, .ref (sq Y 0)), (1, .int a0), (2, .int a1), (3, .int x3_14), (4, .int x4_15), (5, .int x5_8)] [] m12 := by
          intro x3_14 x4_15 hf
          unfold f_X7_won_J101 at hf
          refine g_iinc Γ (pc := 101) (v := x5_8 + 1) (lv' := [(5, .int (x5_8 + 1)), (0, .ref (sq Y 0)), (1, .int a0), (2, .int a1), (3, .int x3_14), (4, .int x4_15)]) 5 dX7_won_101 rfl rfl (by decide) rfl ?_
          refine g_goto Γ (pc := 104) (tgt := 32) dX7_won_104 rfl ?_
          refine g_sub Γ [1, 2, 3, 4, 5, 0] rfl ?_
          exact kI1 (x3_14, x4_15, x5_8 + 1, m12) (Option.some.inj hf).symm
        have J_94 : f_X7_won_J94 x5_8 m12 v13 = some z1 → G 94 [(0, .ref (sq Y 0)), (1, .int a0), (2, .int a1), (5, .int x5_8), (6, .int v13)] [] m12 := by
          intro hf
          unfold f_X7_won_J94 at hf
          refine g_iload Γ (pc := 94) 4 dX7_won_94 rfl ?_
          refine g_istore Γ (pc := 96) (lv' := [(4, .int v13), (0, .ref (sq Y 0)), (1, .int a0), (2, .int a1), (5, .int x5_8), (6, .int v13)]) dX7_won_96 (by decide) rfl ?_
          refine g_iload Γ (pc := 98) 4 dX7_won_98 rfl ?_
          refine g_istore_n Γ (pc := 100) (lv' := [(3, .int x5_8), (4, .int v13), (0, .ref (sq Y 0)), (1, .int a0), (2, .int a1), (5, .int x5_8), (6, .int v13)]) dX7_won_100 rfl (by decide) rfl ?_
          refine g_sub Γ [2, 3, 4, 0, 1, 5] rfl ?_
          exact J_101 x5_8 v13 hf
        refine g_icmp_eq Γ (pc := 84) (tgt := 94) dX7_won_84 rfl hf (fun hf => ?_) (fun hf => ?_)
        · refine g_sub Γ [1, 2, 3, 6, 0] rfl ?_
          exact J_94 hf
        · refine g_iload Γ (pc := 87) 0 dX7_won_87 rfl ?_
          refine g_iload Γ (pc := 89) 5 dX7_won_89 rfl ?_
          refine g_icmp_ge Γ (pc := 91) (tgt := 101) dX7_won_91 rfl hf (fun hf => ?_) (fun hf => ?_)
          · refine g_sub Γ [1, 2, 3, 4, 5, 6] rfl ?_
            exact J_101 x3_6 x4_7 hf
          · refine g_sub Γ [1, 2, 3, 6, 0] rfl ?_
            exact J_94 hf
    · refine g_ldc Γ (pc := 19) dX7_won_19 kK_X7_75 ?_
      exact rI ret dX7_won_21 hf
def f_X7_isNoSheet (a0 : Int32) : Option (Int32) :=
  bn1 (f_X7_outside a0 0 3) fun v1 =>
  zM v1
set_option maxRecDepth 100000 in
set_option maxHeartbeats 4000000 in
theorem c_X7_isNoSheet {Y : SYS} {a0 : Int32} {μ : Mem} {x : Int32} (hf : f_X7_isNoSheet a0 = some x) : KC Y yX7_isNoSheet cX7_isNoSheet 1 (some .boolean) 1 [.int a0] μ (some (.int x)) μ := by
  refine KC.Z RX7 [(0, .int a0)] (by decide) rfl (Nat.le_of_ble_eq_true rfl) rfl (fun G Γ ret => ?_)
  unfold f_X7_isNoSheet at hf
  refine g_iload_n Γ (pc := 0) 0 dX7_isNoSheet_0 rfl rfl ?_
  refine g_iconst Γ (pc := 1) (v := 0) dX7_isNoSheet_1 rfl ?_
  refine g_iconst Γ (pc := 2) (v := 3) dX7_isNoSheet_2 rfl ?_
  obtain ⟨v1, h1, hf⟩ := bn1_i hf
  refine g_callSI Γ (pc := 3) (as := [.int a0, .int 0, .int 3]) (st := []) dX7_isNoSheet_3 (c_X7_outside h1) mi_X7_outside ms_X7_outside kM_X7_71 rfl ⟨Nat.le_of_ble_eq_true rfl, Nat.le_of_ble_eq_true rfl⟩ rfl (Nat.le_of_ble_eq_true rfl) ?_
  exact rZr ret dX7_isNoSheet_6 hf
def f_X7_differences_K5_70 (y3_1 : Int32) : Option (Int32) :=
  some y3_1
def f_X7_differences_J64 (x4_3 : Int32) (x3_5 : Int32) : Option ((Int32 × Int32) ⊕ Int32) :=
  some (.inl (x3_5, x4_3 + 1))
def f_X7_differences_J46 (b0 : Nat) (μ : Mem) (x3_2 : Int32) (x4_3 : Int32) (s7 : Int32) : Option ((Int32 × Int32) ⊕ Int32) :=
  bn1 (ldM (μ (b0 + 1)) 24 x4_3) fun v8 =>
  nm (if 0 ≤ (s7 - v8) then (s7 - v8) else 0 - (s7 - v8)) fun e9 =>
  f_X7_differences_J64 x4_3 (x3_2 + e9)
def f_X7_differences_L5 (b0 : Nat) (a1 : Int32) (μ : Mem) (x3_2 : Int32) (x4_3 : Int32) : Option ((Int32 × Int32) ⊕ Int32) :=
  if (μ b0 2) ≤ x4_3 then
    some (.inr x3_2)
  else
    bn1 (f_X4_isNumber b0 x4_3 μ) fun v4 =>
    if v4 = 0 then
      f_X7_differences_J64 x4_3 x3_2
    else
      bn1 (f_X7_isNobody x4_3 μ) fun v6 =>
      if v6 = 0 then
        bn1 (f_X6_off 21 x4_3 a1 μ) fun v10 =>
        f_X7_differences_J46 b0 μ x3_2 x4_3 v10
      else
        f_X7_differences_J46 b0 μ x3_2 x4_3 0
def f_X7_differences (b0 : Nat) (a1 : Int32) (μ : Mem) : Option (Int32) :=
  bn1 (lpF (fun v => f_X7_differences_L5 b0 a1 μ v.1 v.2) 4000 (0, 0)) (fun x => f_X7_differences_K5_70 x)
set_option maxRecDepth 100000 in
set_option maxHeartbeats 4000000 in
theorem c_X7_differences {Y : SYS} (hC : IsC Y) {b0 : Nat} {a1 : Int32} {μ : Mem} {x : Int32} (hb0 : RowAt b0) (hf : f_X7_differences b0 a1 μ = some x) : KC Y yX7_differences cX7_differences 6 (some .int) 3 [.ref (sq Y 0), .ref (sq Y b0), .int a1] μ (some (.int x)) μ := by
  refine KC.I RX7 [(0, .ref (sq Y 0)), (1, .ref (sq Y b0)), (2, .int a1)] (by decide) rfl (Nat.le_of_ble_eq_true rfl) rfl (fun G Γ ret => ?_)
  unfold f_X7_differences at hf
  refine g_iconst Γ (pc := 0) (v := 0) dX7_differences_0 rfl ?_
  refine g_istore_n Γ (pc := 1) (lv' := [(3, .int 0), (0, .ref (sq Y 0)), (1, .ref (sq Y b0)), (2, .int a1)]) dX7_differences_1 rfl (by decide) rfl ?_
  refine g_iconst Γ (pc := 2) (v := 0) dX7_differences_2 rfl ?_
  refine g_istore Γ (pc := 3) (lv' := [(4, .int 0), (3, .int 0), (0, .ref (sq Y 0)), (1, .ref (sq Y b0)), (2, .int a1)]) dX7_differences_3 (by decide) rfl ?_
  have K_5_70 : ∀ (y3_1 : Int32), f_X7_differences_K5_70 y3_1 = some x → G 70 [(3, .int y3_1)] [] μ := by
    intro y3_1 hf
    unfold f_X7_differences_K5_70 at hf
    refine g_iload_n Γ (pc := 70) 0 dX7_differences_70 rfl rfl ?_
    exact rIr ret dX7_differences_71 hf
  refine g_sub Γ [2, 3, 4, 1, 0] rfl ?_
  refine lpF_s (P := fun (v : Int32 × Int32) => G 5 [(0, .ref (sq Y 0)), (1, .ref (sq Y b0)), (2, .int a1), (3, .int v.1), (4, .int v.2)] [] μ) hf (fun v z1 hf kI1 kX1 => ?_)
  obtain ⟨x3_2, x4_3⟩ := v
  replace hf : f_X7_differences_L5 b0 a1 μ x3_2 x4_3 = some z1 := hf
  show G 5 [(0, .ref (sq Y 0)), (1, .ref (sq Y b0)), (2, .int a1), (3, .int x3_2), (4, .int x4_3)] [] μ
  unfold f_X7_differences_L5 at hf
  refine g_iload Γ (pc := 5) 4 dX7_differences_5 rfl ?_
  refine g_aload_n Γ (pc := 7) 1 dX7_differences_7 rfl rfl ?_
  refine g_get Γ (pc := 8) (v := .int (μ b0 2)) dX7_differences_8 (C_row hC hb0) fr_X7_223 rfl ?_
  refine g_icmp_ge Γ (pc := 11) (tgt := 70) dX7_differences_11 rfl hf (fun hf => ?_) (fun hf => ?_)
  · refine g_sub Γ [3] rfl ?_
    exact K_5_70 x3_2 (kX1 x3_2 (Option.some.inj hf).symm)
  · refine g_aload_n Γ (pc := 14) 1 dX7_differences_14 rfl rfl ?_
    refine g_iload Γ (pc := 15) 4 dX7_differences_15 rfl ?_
    obtain ⟨v4, h1, hf⟩ := bn1_i hf
    refine g_callVI Γ (pc := 17) (as := [.int x4_3]) (st := []) dX7_differences_17 (c_X4_isNumber hC hb0 h1) (C_row hC hb0) rfl mi_X4_isNumber mv_X4_isNumber kM_X7_224 rfl ⟨Nat.le_of_ble_eq_true rfl, Nat.le_of_ble_eq_true rfl⟩ rfl (Nat.le_of_ble_eq_true rfl) ?_
    have J_64 : ∀ (x3_5 : Int32), f_X7_differences_J64 x4_3 x3_5 = some z1 → G 64 [(0, .ref (sq Y 0)), (1, .ref (sq Y b0)), (2, .int a1), (3, .int x3_5), (4, .int x4_3)] [] μ := by
      intro x3_5 hf
      unfold f_X7_differences_J64 at hf
      refine g_iinc Γ (pc := 64) (v := x4_3 + 1) (lv' := [(4, .int (x4_3 + 1)), (0, .ref (sq Y 0)), (1, .ref (sq Y b0)), (2, .int a1), (3, .int x3_5)]) 4 dX7_differences_64 rfl rfl (by decide) rfl ?_
      refine g_goto Γ (pc := 67) (tgt := 5) dX7_differences_67 rfl ?_
      refine g_sub Γ [1, 2, 3, 4, 0] rfl ?_
      exact kI1 (x3_5, x4_3 + 1) (Option.some.inj hf).symm
    refine g_if_eq Γ (pc := 20) (tgt := 64) dX7_differences_20 rfl hf (fun hf => ?_) (fun hf => ?_)
    · refine g_sub Γ [0, 1, 2, 3, 4] rfl ?_
      exact J_64 x3_2 hf
    · refine g_aload_n Γ (pc := 23) 0 dX7_differences_23 rfl rfl ?_
      refine g_iload Γ (pc := 24) 4 dX7_differences_24 rfl ?_
      obtain ⟨v6, h1, hf⟩ := bn1_i hf
      refine g_callVI Γ (pc := 26) (as := [.int x4_3]) (st := []) dX7_differences_26 (c_X7_isNobody hC h1) (C_main hC) rfl mi_X7_isNobody mv_X7_isNobody kM_X7_84 rfl ⟨Nat.le_of_ble_eq_true rfl, Nat.le_of_ble_eq_true rfl⟩ rfl (Nat.le_of_ble_eq_true rfl) ?_
      have J_46 : ∀ (s7 : Int32), f_X7_differences_J46 b0 μ x3_2 x4_3 s7 = some z1 → G 46 [(0, .ref (sq Y 0)), (1, .ref (sq Y b0)), (2, .int a1), (3, .int x3_2), (4, .int x4_3)] [.int s7] μ := by
        intro s7 hf
        unfold f_X7_differences_J46 at hf
        refine g_istore Γ (pc := 46) (lv' := [(5, .int s7), (0, .ref (sq Y 0)), (1, .ref (sq Y b0)), (2, .int a1), (3, .int x3_2), (4, .int x4_3)]) dX7_differences_46 (by decide) rfl ?_
        refine g_iload_n Γ (pc := 48) 4 dX7_differences_48 rfl rfl ?_
        refine g_iload Γ (pc := 49) 0 dX7_differences_49 rfl ?_
        refine g_aload_n Γ (pc := 51) 2 dX7_differences_51 rfl rfl ?_
        refine g_get Γ (pc := 52) (v := .ref (sq Y (b0 + 1))) dX7_differences_52 (C_row hC hb0) fr_X7_230 rfl ?_
        refine g_iload Γ (pc := 55) 5 dX7_differences_55 rfl ?_
        refine g_iald Γ (pc := 57) dX7_differences_57 (C_row1 hC hb0) hf (fun v8 hf => ?_)
        refine g_isub Γ (pc := 58) dX7_differences_58 ?_
        refine g_abs Γ (pc := 59) dX7_differences_59 kM_X7_233 kS_Math_abs kI_J9 kC_Math_abs (Nat.le_of_ble_eq_true rfl) (Nat.le_of_ble_eq_true rfl) ?_
        refine g_nmi hf (fun e9 hf => ?_)
        refine g_iadd Γ (pc := 62) dX7_differences_62 ?_
        refine g_istore_n Γ (pc := 63) (lv' := [(3, .int (x3_2 + e9)), (5, .int s7), (0, .ref (sq Y 0)), (1, .ref (sq Y b0)), (2, .int a1), (4, .int x4_3)]) dX7_differences_63 rfl (by decide) rfl ?_
        refine g_sub Γ [2, 3, 4, 0, 5] rfl ?_
        exact J_64 (x3_2 + e9) hf
      refine g_if_eq Γ (pc := 29) (tgt := 36) dX7_differences_29 rfl hf (fun hf => ?_) (fun hf => ?_)
      · refine g_aload_n Γ (pc := 36) 0 dX7_differences_36 rfl rfl ?_
        refine g_get Γ (pc := 37) (v := .ref (sq Y 21)) dX7_differences_37 (C_main hC) fr_X7_21 rfl ?_
        refine g_iload Γ (pc := 40) 4 dX7_differences_40 rfl ?_
        refine g_iload_n Γ (pc := 42) 2 dX7_differences_42 rfl rfl ?_
        obtain ⟨v10, h1, hf⟩ := bn1_i hf
        refine g_callVI Γ (pc := 43) (as := [.int x4_3, .int a1]) (st := []) dX7_differences_43 (c_X6_off hC (Or.inl rfl) h1) (C_town hC (Or.inl rfl)) rfl mi_X6_off mv_X6_off kM_X7_227 rfl ⟨Nat.le_of_ble_eq_true rfl, Nat.le_of_ble_eq_true rfl⟩ rfl (Nat.le_of_ble_eq_true rfl) ?_
        refine g_sub Γ [0, 1, 2, 3, 4] rfl ?_
        exact J_46 v10 hf
      · refine g_iconst Γ (pc := 32) (v := 0) dX7_differences_32 rfl ?_
        refine g_goto Γ (pc := 33) (tgt := 46) dX7_differences_33 rfl ?_
        refine g_sub Γ [0, 1, 2, 3, 4] rfl ?_
        exact J_46 0 hf
def f_X7_lied_K44_106 (a1 : Int32) (y3_5 : Int32) (y4_6 : Int32) : Option (Int32) :=
  if a1 = 0 then
    some y3_5
  else
    some y4_6
def f_X7_lied_J100 (x5_9 : Int32) (x3_12 : Int32) (x4_13 : Int32) : Option ((Int32 × Int32 × Int32) ⊕ (Int32 × Int32)) :=
  some (.inl (x3_12, x4_13, x5_9 + 1))
def f_X7_lied_J93 (x5_9 : Int32) (v11 : Int32) : Option ((Int32 × Int32 × Int32) ⊕ (Int32 × Int32)) :=
  f_X7_lied_J100 x5_9 x5_9 v11
def f_X7_lied_L44 (a0 : Int32) (μ : Mem) (x3_7 : Int32) (x4_8 : Int32) (x5_9 : Int32) : Option ((Int32 × Int32 × Int32) ⊕ (Int32 × Int32)) :=
  if (μ 21 5) ≤ x5_9 then
    some (.inr (x3_7, x4_8))
  else
    bn1 (rdM 4 a0) fun j10 =>
    bn1 (f_X7_differences (42 + 2 * j10) ((μ 21 6) ^^^ ((1 : Int32) <<< (x5_9 &&& 31))) μ) fun v11 =>
    if x3_7 = (-1000000005) then
      f_X7_lied_J93 x5_9 v11
    else
      if x4_8 ≤ v11 then
        f_X7_lied_J100 x5_9 x3_7 x4_8
      else
        f_X7_lied_J93 x5_9 v11
def f_X7_lied (a0 : Int32) (a1 : Int32) (μ : Mem) : Option (Int32) :=
  bn1 (f_X7_isNoSheet a0) fun v1 =>
  if v1 = 0 then
    bn1 (f_X7_outside a1 0 1) fun v2 =>
    if v2 = 0 then
      bn1 (rdM 4 a0) fun j3 =>
      bn1 (f_X4_isMissing (42 + 2 * j3) μ) fun v4 =>
      if v4 = 0 then
        bn1 (lpF (fun v => f_X7_lied_L44 a0 μ v.1 v.2.1 v.2.2) 4000 ((-1000000005), (-1000000005), 0)) (fun x => f_X7_lied_K44_106 a1 x.1 x.2)
      else
        some (-1000000011)
    else
      some (-1000000001)
  else
    some (-1000000001)
set_option maxRecDepth 100000 in
set_option maxHeartbeats 4000000 in
theorem c_X7_lied {Y : SYS} (hC : IsC Y) {a0 : Int32} {a1 : Int32} {μ : Mem} {x : Int32} (hf : f_X7_lied a0 a1 μ = some x) : KC Y yX7_lied cX7_lied 7 (some .int) 4 [.ref (sq Y 0), .int a0, .int a1] μ (some (.int x)) μ := by
  refine KC.I RX7 [(0, .ref (sq Y 0)), (1, .int a0), (2, .int a1)] (by decide) rfl (Nat.le_of_ble_eq_true rfl) rfl (fun G Γ ret => ?_)
  unfold f_X7_lied at hf
  refine g_iload_n Γ (pc := 0) 1 dX7_lied_0 rfl rfl ?_
  obtain ⟨v1, h1, hf⟩ := bn1_i hf
  refine g_callSI Γ (pc := 1) (as := [.int a0]) (st := []) dX7_lied_1 (c_X7_isNoSheet h1) mi_X7_isNoSheet ms_X7_isNoSheet kM_X7_211 rfl ⟨Nat.le_of_ble_eq_true rfl, Nat.le_of_ble_eq_true rfl⟩ rfl (Nat.le_of_ble_eq_true rfl) ?_
  refine g_if_ne Γ (pc := 4) (tgt := 16) dX7_lied_4 rfl hf (fun hf => ?_) (fun hf => ?_)
  · refine g_ldc Γ (pc := 16) dX7_lied_16 kK_X7_75 ?_
    exact rIr ret dX7_lied_18 hf
  · refine g_iload_n Γ (pc := 7) 2 dX7_lied_7 rfl rfl ?_
    refine g_iconst Γ (pc := 8) (v := 0) dX7_lied_8 rfl ?_
    refine g_iconst Γ (pc := 9) (v := 1) dX7_lied_9 rfl ?_
    obtain ⟨v2, h1, hf⟩ := bn1_i hf
    refine g_callSI Γ (pc := 10) (as := [.int a1, .int 0, .int 1]) (st := []) dX7_lied_10 (c_X7_outside h1) mi_X7_outside ms_X7_outside kM_X7_71 rfl ⟨Nat.le_of_ble_eq_true rfl, Nat.le_of_ble_eq_true rfl⟩ rfl (Nat.le_of_ble_eq_true rfl) ?_
    refine g_if_eq Γ (pc := 13) (tgt := 19) dX7_lied_13 rfl hf (fun hf => ?_) (fun hf => ?_)
    · refine g_aload_n Γ (pc := 19) 0 dX7_lied_19 rfl rfl ?_
      refine g_get Γ (pc := 20) (v := .ref (sq Y 41)) dX7_lied_20 (C_main hC) fr_X7_47 rfl ?_
      refine g_iload_n Γ (pc := 23) 1 dX7_lied_23 rfl rfl ?_
      refine g_aaldT Γ (pc := 24) dX7_lied_24 (C_sheets hC) hf (fun j3 hj3 hf => ?_)
      obtain ⟨v4, h1, hf⟩ := bn1_i hf
      refine g_callVI Γ (pc := 25) (as := []) (st := []) dX7_lied_25 (c_X4_isMissing hC (RowAt.sheet hj3) h1) (C_row hC (RowAt.sheet hj3)) rfl mi_X4_isMissing mv_X4_isMissing kM_X7_214 rfl ⟨Nat.le_of_ble_eq_true rfl, Nat.le_of_ble_eq_true rfl⟩ rfl (Nat.le_of_ble_eq_true rfl) ?_
      refine g_if_eq Γ (pc := 28) (tgt := 34) dX7_lied_28 rfl hf (fun hf => ?_) (fun hf => ?_)
      · refine g_ldc Γ (pc := 34) dX7_lied_34 kK_X7_197 ?_
        refine g_istore_n Γ (pc := 36) (lv' := [(3, .int (-1000000005)), (0, .ref (sq Y 0)), (1, .int a0), (2, .int a1)]) dX7_lied_36 rfl (by decide) rfl ?_
        refine g_ldc Γ (pc := 37) dX7_lied_37 kK_X7_197 ?_
        refine g_istore Γ (pc := 39) (lv' := [(4, .int (-1000000005)), (3, .int (-1000000005)), (0, .ref (sq Y 0)), (1, .int a0), (2, .int a1)]) dX7_lied_39 (by decide) rfl ?_
        refine g_iconst Γ (pc := 41) (v := 0) dX7_lied_41 rfl ?_
        refine g_istore Γ (pc := 42) (lv' := [(5, .int 0), (4, .int (-1000000005)), (3, .int (-1000000005)), (0, .ref (sq Y 0)), (1, .int a0), (2, .int a1)]) dX7_lied_42 (by decide) rfl ?_
        have K_44_106 : ∀ (y3_5 : Int32) (y4_6 : Int32), f_X7_lied_K44_106 a1 y3_5 y4_6 = some x → G 106 [(2, .int a1), (3, .int y3_5), (4, .int y4_6)] [] μ := by
          intro y3_5 y4_6 hf
          unfold f_X7_lied_K44_106 at hf
          refine g_iload_n Γ (pc := 106) 0 dX7_lied_106 rfl rfl ?_
          refine g_if_ne Γ (pc := 107) (tgt := 114) dX7_lied_107 rfl hf (fun hf => ?_) (fun hf => ?_)
          · refine g_iload Γ (pc := 114) 2 dX7_lied_114 rfl ?_
            exact rIr ret dX7_lied_116 hf
          · refine g_iload_n Γ (pc := 110) 1 dX7_lied_110 rfl rfl ?_
            refine g_goto Γ (pc := 111) (tgt := 116) dX7_lied_111 rfl ?_
            exact rIr ret dX7_lied_116 hf
        refine g_sub Γ [3, 4, 5, 2, 1, 0] rfl ?_
        refine lpF_s (P := fun (v : Int32 × Int32 × Int32) => G 44 [(0, .ref (sq Y 0)), (1, .int a0), (2, .int a1), (3, .int v.1), (4, .int v.2.1), (5, .int v.2.2)] [] μ) hf (fun v z1 hf kI1 kX1 => ?_)
        obtain ⟨x3_7, x4_8, x5_9⟩ := v
        replace hf : f_X7_lied_L44 a0 μ x3_7 x4_8 x5_9 = some z1 := hf
        show G 44 [(0, .ref (sq Y 0)), (1, .int a0), (2, .int a1), (3, .int x3_7), (4, .int x4_8), (5, .int x5_9)] [] μ
        unfold f_X7_lied_L44 at hf
        refine g_iload Γ (pc := 44) 5 dX7_lied_44 rfl ?_
        refine g_aload_n Γ (pc := 46) 0 dX7_lied_46 rfl rfl ?_
        refine g_get Γ (pc := 47) (v := .ref (sq Y 21)) dX7_lied_47 (C_main hC) fr_X7_21 rfl ?_
        refine g_get Γ (pc := 50) (v := .int (μ 21 5)) dX7_lied_50 (C_town hC (Or.inl rfl)) fr_X7_76 rfl ?_
        refine g_icmp_ge Γ (pc := 53) (tgt := 106) dX7_lied_53 rfl hf (fun hf => ?_) (fun hf => ?_)
        · refine g_sub Γ [2, 3, 4] rfl ?_
          exact K_44_106 x3_7 x4_8 (kX1 (x3_7, x4_8) (Option.some.inj hf).symm)
        · refine g_aload_n Γ (pc := 56) 0 dX7_lied_56 rfl rfl ?_
          refine g_aload_n Γ (pc := 57) 0 dX7_lied_57 rfl rfl ?_
          refine g_get Γ (pc := 58) (v := .ref (sq Y 41)) dX7_lied_58 (C_main hC) fr_X7_47 rfl ?_
          refine g_iload_n Γ (pc := 61) 1 dX7_lied_61 rfl rfl ?_
          refine g_aaldT Γ (pc := 62) dX7_lied_62 (C_sheets hC) hf (fun j10 hj10 hf => ?_)
          refine g_aload_n Γ (pc := 63) 0 dX7_lied_63 rfl rfl ?_
          refine g_get Γ (pc := 64) (v := .ref (sq Y 21)) dX7_lied_64 (C_main hC) fr_X7_21 rfl ?_
          refine g_get Γ (pc := 67) (v := .int (μ 21 6)) dX7_lied_67 (C_town hC (Or.inl rfl)) fr_X7_170 rfl ?_
          refine g_iconst Γ (pc := 70) (v := 1) dX7_lied_70 rfl ?_
          refine g_iload Γ (pc := 71) 5 dX7_lied_71 rfl ?_
          refine g_ishl Γ (pc := 73) dX7_lied_73 ?_
          refine g_ixor Γ (pc := 74) dX7_lied_74 ?_
          obtain ⟨v11, h1, hf⟩ := bn1_i hf
          refine g_callVI Γ (pc := 75) (as := [.ref (sq Y (42 + 2 * j10)), .int ((μ 21 6) ^^^ ((1 : Int32) <<< (x5_9 &&& 31)))]) (st := []) dX7_lied_75 (c_X7_differences hC (RowAt.sheet hj10) h1) (C_main hC) rfl mi_X7_differences mv_X7_differences kM_X7_219 rfl ⟨Nat.le_of_ble_eq_true rfl, Nat.le_of_ble_eq_true rfl⟩ rfl (Nat.le_of_ble_eq_true rfl) ?_
          refine g_istore Γ (pc := 78) (lv' := [(6, .int v11), (0, .ref (sq Y 0)), (1, .int a0), (2, .int a1), (3, .int x3_7), (4, .int x4_8), (5, .int x5_9)]) dX7_lied_78 (by decide) rfl ?_
          refine g_iload_n Γ (pc := 80) 4 dX7_lied_80 rfl rfl ?_
          refine g_ldc Γ (pc := 81) dX7_lied_81 kK_X7_197 ?_
          have J_100 : ∀ (x3_12 : Int32) (x4_13 : Int32), f_X7_lied_J100 x5_9 x3_12 x4_13 = some z1 → G 100 [(0, .ref (sq Y 0)), (1, .int a0), (2, .int a1), (3, .int x3_12), (4, .int x4_13), (5, .int x5_9)] [] μ := by
            intro x3_12 x4_13 hf
            unfold f_X7_lied_J100 at hf
            refine g_iinc Γ (pc := 100) (v := x5_9 + 1) (lv' := [(5, .int (x5_9 + 1)), (0, .ref (sq Y 0)), (1, .int a0), (2, .int a1), (3, .int x3_12), (4, .int x4_13)]) 5 dX7_lied_100 rfl rfl (by decide) rfl ?_
            refine g_goto Γ (pc := 103) (tgt := 44) dX7_lied_103 rfl ?_
            refine g_sub Γ [1, 2, 3, 4, 5, 0] rfl ?_
            exact kI1 (x3_12, x4_13, x5_9 + 1) (Option.some.inj hf).symm
          have J_93 : f_X7_lied_J93 x5_9 v11 = some z1 → G 93 [(0, .ref (sq Y 0)), (1, .int a0), (2, .int a1), (5, .int x5_9), (6, .int v11)] [] μ := by
            intro hf
            unfold f_X7_lied_J93 at hf
            refine g_iload Γ (pc := 93) 4 dX7_lied_93 rfl ?_
            refine g_istore Γ (pc := 95) (lv' := [(4, .int v11), (0, .ref (sq Y 0)), (1, .int a0), (2, .int a1), (5, .int x5_9), (6, .int v11)]) dX7_lied_95 (by decide) rfl ?_
            refine g_iload Γ (pc := 97) 4 dX7_lied_97 rfl ?_
            refine g_istore_n Γ (pc := 99) (lv' := [(3, .int x5_9), (4, .int v11), (0, .ref (sq Y 0)), (1, .int a0), (2, .int a1), (5, .int x5_9), (6, .int v11)]) dX7_lied_99 rfl (by decide) rfl ?_
            refine g_sub Γ [2, 3, 4, 0, 1, 5] rfl ?_
            exact J_100 x5_9 v11 hf
          refine g_icmp_eq Γ (pc := 83) (tgt := 93) dX7_lied_83 rfl hf (fun hf => ?_) (fun hf => ?_)
          · refine g_sub Γ [1, 2, 3, 6, 0] rfl ?_
            exact J_93 hf
          · refine g_iload Γ (pc := 86) 0 dX7_lied_86 rfl ?_
            refine g_iload Γ (pc := 88) 5 dX7_lied_88 rfl ?_
            refine g_icmp_ge Γ (pc := 90) (tgt := 100) dX7_lied_90 rfl hf (fun hf => ?_) (fun hf => ?_)
            · refine g_sub Γ [1, 2, 3, 4, 5, 6] rfl ?_
              exact J_100 x3_7 x4_8 hf
            · refine g_sub Γ [1, 2, 3, 6, 0] rfl ?_
              exact J_93 hf
      · refine g_ldc Γ (pc := 31) dX7_lied_31 kK_X7_218 ?_
        exact rIr ret dX7_lied_33 hf
    · refine g_ldc Γ (pc := 16) dX7_lied_16 kK_X7_75 ?_
      exact rIr ret dX7_lied_18 hf
def f_X7_fee (μ : Mem) : Option (Int32 × Mem) :=
  bn1 (f_X0_counts 1 (μ 21 14) μ) fun v1 =>
  if 0 ≤ v1 then
    bn2 (f_X0_gives v1 (μ 21 10) (μ 21 12) 0 μ) fun v2 m3 =>
    some (v2, m3)
  else
    some ((μ 21 10), μ)
set_option maxRecDepth 100000 in
set_option maxHeartbeats 4000000 in
theorem c_X7_fee {Y : SYS} (hC : IsC Y) {μ : Mem} {x : Int32} {m : Mem} (hf : f_X7_fee μ = some (x, m)) : KC Y yX7_fee cX7_fee 2 (some .int) 2 [.ref (sq Y 0)] μ (some (.int x)) m := by
  refine KC.I RX7 [(0, .ref (sq Y 0))] (by decide) rfl (Nat.le_of_ble_eq_true rfl) rfl (fun G Γ ret => ?_)
  unfold f_X7_fee at hf
  refine g_aload_n Γ (pc := 0) 0 dX7_fee_0 rfl rfl ?_
  refine g_get Γ (pc := 1) (v := .ref (sq Y 1)) dX7_fee_1 (C_main hC) fr_X7_10 rfl ?_
  refine g_iconst Γ (pc := 4) (v := 1) dX7_fee_4 rfl ?_
  refine g_aload_n Γ (pc := 5) 0 dX7_fee_5 rfl rfl ?_
  refine g_get Γ (pc := 6) (v := .ref (sq Y 21)) dX7_fee_6 (C_main hC) fr_X7_21 rfl ?_
  refine g_get Γ (pc := 9) (v := .int (μ 21 14)) dX7_fee_9 (C_town hC (Or.inl rfl)) fr_X7_236 rfl ?_
  obtain ⟨v1, h1, hf⟩ := bn1_i hf
  refine g_callVI Γ (pc := 12) (as := [.int 1, .int (μ 21 14)]) (st := []) dX7_fee_12 (c_X0_counts hC h1) (C_book hC) rfl mi_X0_counts mv_X0_counts kM_X7_239 rfl ⟨Nat.le_of_ble_eq_true rfl, Nat.le_of_ble_eq_true rfl⟩ rfl (Nat.le_of_ble_eq_true rfl) ?_
  refine g_istore_n Γ (pc := 15) (lv' := [(1, .int v1), (0, .ref (sq Y 0))]) dX7_fee_15 rfl (by decide) rfl ?_
  refine g_iload_n Γ (pc := 16) 0 dX7_fee_16 rfl rfl ?_
  refine g_if_ge Γ (pc := 17) (tgt := 30) dX7_fee_17 rfl hf (fun hf => ?_) (fun hf => ?_)
  · refine g_aload_n Γ (pc := 30) 1 dX7_fee_30 rfl rfl ?_
    refine g_get Γ (pc := 31) (v := .ref (sq Y 1)) dX7_fee_31 (C_main hC) fr_X7_10 rfl ?_
    refine g_iload_n Γ (pc := 34) 0 dX7_fee_34 rfl rfl ?_
    refine g_aload_n Γ (pc := 35) 1 dX7_fee_35 rfl rfl ?_
    refine g_get Γ (pc := 36) (v := .ref (sq Y 21)) dX7_fee_36 (C_main hC) fr_X7_21 rfl ?_
    refine g_get Γ (pc := 39) (v := .int (μ 21 10)) dX7_fee_39 (C_town hC (Or.inl rfl)) fr_X7_164 rfl ?_
    refine g_aload_n Γ (pc := 42) 1 dX7_fee_42 rfl rfl ?_
    refine g_get Γ (pc := 43) (v := .ref (sq Y 21)) dX7_fee_43 (C_main hC) fr_X7_21 rfl ?_
    refine g_get Γ (pc := 46) (v := .int (μ 21 12)) dX7_fee_46 (C_town hC (Or.inl rfl)) fr_X7_202 rfl ?_
    refine g_iconst Γ (pc := 49) (v := 0) dX7_fee_49 rfl ?_
    obtain ⟨v2, m3, h1, hf⟩ := bn2_i hf
    refine g_callVI Γ (pc := 50) (as := [.int v1, .int (μ 21 10), .int (μ 21 12), .int 0]) (st := []) dX7_fee_50 (c_X0_gives hC h1) (C_book hC) rfl mi_X0_gives mv_X0_gives kM_X7_242 rfl ⟨Nat.le_of_ble_eq_true rfl, Nat.le_of_ble_eq_true rfl⟩ rfl (Nat.le_of_ble_eq_true rfl) ?_
    exact rI ret dX7_fee_53 hf
  · refine g_aload_n Γ (pc := 20) 1 dX7_fee_20 rfl rfl ?_
    refine g_get Γ (pc := 21) (v := .ref (sq Y 21)) dX7_fee_21 (C_main hC) fr_X7_21 rfl ?_
    refine g_get Γ (pc := 24) (v := .int (μ 21 10)) dX7_fee_24 (C_town hC (Or.inl rfl)) fr_X7_164 rfl ?_
    refine g_goto Γ (pc := 27) (tgt := 53) dX7_fee_27 rfl ?_
    exact rI ret dX7_fee_53 hf
def f_X7_fine (a0 : Int32) (μ : Mem) : Option (Int32 × Mem) :=
  bn1 (f_X7_isNobody a0 μ) fun v1 =>
  if v1 = 0 then
    bn1 (f_X0_counts 2 (μ 21 14) μ) fun v2 =>
    bn1 (f_X6_offOf 21 a0 μ) fun v3 =>
    if 0 ≤ v2 then
      bn1 (ldM (μ 24) 10 a0) fun v4 =>
      bn2 (f_X0_gives v2 v3 v4 0 μ) fun v5 m6 =>
      some (v5, m6)
    else
      some (v3, μ)
  else
    some ((-1000000001), μ)
set_option maxRecDepth 100000 in
set_option maxHeartbeats 4000000 in
theorem c_X7_fine {Y : SYS} (hC : IsC Y) {a0 : Int32} {μ : Mem} {x : Int32} {m : Mem} (hf : f_X7_fine a0 μ = some (x, m)) : KC Y yX7_fine cX7_fine 4 (some .int) 4 [.ref (sq Y 0), .int a0] μ (some (.int x)) m := by
  refine KC.I RX7 [(0, .ref (sq Y 0)), (1, .int a0)] (by decide) rfl (Nat.le_of_ble_eq_true rfl) rfl (fun G Γ ret => ?_)
  unfold f_X7_fine at hf
  refine g_aload_n Γ (pc := 0) 0 dX7_fine_0 rfl rfl ?_
  refine g_iload_n Γ (pc := 1) 1 dX7_fine_1 rfl rfl ?_
  obtain ⟨v1, h1, hf⟩ := bn1_i hf
  refine g_callVI Γ (pc := 2) (as := [.int a0]) (st := []) dX7_fine_2 (c_X7_isNobody hC h1) (C_main hC) rfl mi_X7_isNobody mv_X7_isNobody kM_X7_84 rfl ⟨Nat.le_of_ble_eq_true rfl, Nat.le_of_ble_eq_true rfl⟩ rfl (Nat.le_of_ble_eq_true rfl) ?_
  refine g_if_eq Γ (pc := 5) (tgt := 11) dX7_fine_5 rfl hf (fun hf => ?_) (fun hf => ?_)
  · refine g_aload_n Γ (pc := 11) 0 dX7_fine_11 rfl rfl ?_
    refine g_get Γ (pc := 12) (v := .ref (sq Y 1)) dX7_fine_12 (C_main hC) fr_X7_10 rfl ?_
    refine g_iconst Γ (pc := 15) (v := 2) dX7_fine_15 rfl ?_
    refine g_aload_n Γ (pc := 16) 0 dX7_fine_16 rfl rfl ?_
    refine g_get Γ (pc := 17) (v := .ref (sq Y 21)) dX7_fine_17 (C_main hC) fr_X7_21 rfl ?_
    refine g_get Γ (pc := 20) (v := .int (μ 21 14)) dX7_fine_20 (C_town hC (Or.inl rfl)) fr_X7_236 rfl ?_
    obtain ⟨v2, h1, hf⟩ := bn1_i hf
    refine g_callVI Γ (pc := 23) (as := [.int 2, .int (μ 21 14)]) (st := []) dX7_fine_23 (c_X0_counts hC h1) (C_book hC) rfl mi_X0_counts mv_X0_counts kM_X7_239 rfl ⟨Nat.le_of_ble_eq_true rfl, Nat.le_of_ble_eq_true rfl⟩ rfl (Nat.le_of_ble_eq_true rfl) ?_
    refine g_istore_n Γ (pc := 26) (lv' := [(2, .int v2), (0, .ref (sq Y 0)), (1, .int a0)]) dX7_fine_26 rfl (by decide) rfl ?_
    refine g_aload_n Γ (pc := 27) 1 dX7_fine_27 rfl rfl ?_
    refine g_get Γ (pc := 28) (v := .ref (sq Y 21)) dX7_fine_28 (C_main hC) fr_X7_21 rfl ?_
    refine g_iload_n Γ (pc := 31) 2 dX7_fine_31 rfl rfl ?_
    obtain ⟨v3, h1, hf⟩ := bn1_i hf
    refine g_callVI Γ (pc := 32) (as := [.int a0]) (st := []) dX7_fine_32 (c_X6_offOf hC (Or.inl rfl) h1) (C_town hC (Or.inl rfl)) rfl mi_X6_offOf mv_X6_offOf kM_X7_104 rfl ⟨Nat.le_of_ble_eq_true rfl, Nat.le_of_ble_eq_true rfl⟩ rfl (Nat.le_of_ble_eq_true rfl) ?_
    refine g_istore_n Γ (pc := 35) (lv' := [(3, .int v3), (2, .int v2), (0, .ref (sq Y 0)), (1, .int a0)]) dX7_fine_35 rfl (by decide) rfl ?_
    refine g_iload_n Γ (pc := 36) 1 dX7_fine_36 rfl rfl ?_
    refine g_if_ge Γ (pc := 37) (tgt := 44) dX7_fine_37 rfl hf (fun hf => ?_) (fun hf => ?_)
    · refine g_aload_n Γ (pc := 44) 2 dX7_fine_44 rfl rfl ?_
      refine g_get Γ (pc := 45) (v := .ref (sq Y 1)) dX7_fine_45 (C_main hC) fr_X7_10 rfl ?_
      refine g_iload_n Γ (pc := 48) 1 dX7_fine_48 rfl rfl ?_
      refine g_iload_n Γ (pc := 49) 0 dX7_fine_49 rfl rfl ?_
      refine g_aload_n Γ (pc := 50) 2 dX7_fine_50 rfl rfl ?_
      refine g_get Γ (pc := 51) (v := .ref (sq Y 21)) dX7_fine_51 (C_main hC) fr_X7_21 rfl ?_
      refine g_get Γ (pc := 54) (v := .ref (sq Y 24)) dX7_fine_54 (C_town hC (Or.inl rfl)) fr_X7_98 rfl ?_
      refine g_iload_n Γ (pc := 57) 3 dX7_fine_57 rfl rfl ?_
      refine g_iald Γ (pc := 58) dX7_fine_58 (C_town3 hC (Or.inl rfl)) hf (fun v4 hf => ?_)
      refine g_iconst Γ (pc := 59) (v := 0) dX7_fine_59 rfl ?_
      obtain ⟨v5, m6, h1, hf⟩ := bn2_i hf
      refine g_callVI Γ (pc := 60) (as := [.int v2, .int v3, .int v4, .int 0]) (st := []) dX7_fine_60 (c_X0_gives hC h1) (C_book hC) rfl mi_X0_gives mv_X0_gives kM_X7_242 rfl ⟨Nat.le_of_ble_eq_true rfl, Nat.le_of_ble_eq_true rfl⟩ rfl (Nat.le_of_ble_eq_true rfl) ?_
      exact rI ret dX7_fine_63 hf
    · refine g_iload_n Γ (pc := 40) 0 dX7_fine_40 rfl rfl ?_
      refine g_goto Γ (pc := 41) (tgt := 63) dX7_fine_41 rfl ?_
      exact rI ret dX7_fine_63 hf
  · refine g_ldc Γ (pc := 8) dX7_fine_8 kK_X7_75 ?_
    exact rI ret dX7_fine_10 hf
def f_X7_feed (a0 : Int32) (a1 : Int32) (a2 : Int32) (μ : Mem) : Option (Int32 × Mem) :=
  if ((μ 38 2) + 12) ≤ 96 then
    bn1 (f_X3_append a0 μ) fun m1 =>
    bn1 (f_X3_append a1 m1) fun m2 =>
    bn1 (f_X3_append a2 m2) fun m3 =>
    some ((m3 38 2), m3)
  else
    some ((-1000000003), μ)
set_option maxRecDepth 100000 in
set_option maxHeartbeats 4000000 in
theorem c_X7_feed {Y : SYS} (hC : IsC Y) {a0 : Int32} {a1 : Int32} {a2 : Int32} {μ : Mem} {x : Int32} {m : Mem} (hf : f_X7_feed a0 a1 a2 μ = some (x, m)) : KC Y yX7_feed cX7_feed 4 (some .int) 1 [.ref (sq Y 0), .int a0, .int a1, .int a2] μ (some (.int x)) m := by
  refine KC.I RX7 [(0, .ref (sq Y 0)), (1, .int a0), (2, .int a1), (3, .int a2)] (by decide) rfl (Nat.le_of_ble_eq_true rfl) rfl (fun G Γ ret => ?_)
  unfold f_X7_feed at hf
  refine g_aload_n Γ (pc := 0) 0 dX7_feed_0 rfl rfl ?_
  refine g_get Γ (pc := 1) (v := .ref (sq Y 38)) dX7_feed_1 (C_main hC) fr_X7_41 rfl ?_
  refine g_get Γ (pc := 4) (v := .int (μ 38 2)) dX7_feed_4 (C_reader hC) fr_X7_246 rfl ?_
  refine g_bipush Γ (pc := 7) (v := 12) dX7_feed_7 rfl ?_
  refine g_iadd Γ (pc := 9) dX7_feed_9 ?_
  refine g_bipush Γ (pc := 10) (v := 96) dX7_feed_10 rfl ?_
  refine g_icmp_le Γ (pc := 12) (tgt := 18) dX7_feed_12 rfl hf (fun hf => ?_) (fun hf => ?_)
  · refine g_aload_n Γ (pc := 18) 0 dX7_feed_18 rfl rfl ?_
    refine g_get Γ (pc := 19) (v := .ref (sq Y 38)) dX7_feed_19 (C_main hC) fr_X7_41 rfl ?_
    refine g_iload_n Γ (pc := 22) 1 dX7_feed_22 rfl rfl ?_
    obtain ⟨m1, h1, hf⟩ := bn1_i hf
    refine g_callVV Γ (pc := 23) (as := [.int a0]) (st := []) dX7_feed_23 (c_X3_append hC h1) (C_reader hC) rfl mi_X3_append mv_X3_append kM_X7_249 rfl ⟨Nat.le_of_ble_eq_true rfl, Nat.le_of_ble_eq_true rfl⟩ rfl (Nat.le_of_ble_eq_true rfl) ?_
    refine g_aload_n Γ (pc := 26) 0 dX7_feed_26 rfl rfl ?_
    refine g_get Γ (pc := 27) (v := .ref (sq Y 38)) dX7_feed_27 (C_main hC) fr_X7_41 rfl ?_
    refine g_iload_n Γ (pc := 30) 2 dX7_feed_30 rfl rfl ?_
    obtain ⟨m2, h1, hf⟩ := bn1_i hf
    refine g_callVV Γ (pc := 31) (as := [.int a1]) (st := []) dX7_feed_31 (c_X3_append hC h1) (C_reader hC) rfl mi_X3_append mv_X3_append kM_X7_249 rfl ⟨Nat.le_of_ble_eq_true rfl, Nat.le_of_ble_eq_true rfl⟩ rfl (Nat.le_of_ble_eq_true rfl) ?_
    refine g_aload_n Γ (pc := 34) 0 dX7_feed_34 rfl rfl ?_
    refine g_get Γ (pc := 35) (v := .ref (sq Y 38)) dX7_feed_35 (C_main hC) fr_X7_41 rfl ?_
    refine g_iload_n Γ (pc := 38) 3 dX7_feed_38 rfl rfl ?_
    obtain ⟨m3, h1, hf⟩ := bn1_i hf
    refine g_callVV Γ (pc := 39) (as := [.int a2]) (st := []) dX7_feed_39 (c_X3_append hC h1) (C_reader hC) rfl mi_X3_append mv_X3_append kM_X7_249 rfl ⟨Nat.le_of_ble_eq_true rfl, Nat.le_of_ble_eq_true rfl⟩ rfl (Nat.le_of_ble_eq_true rfl) ?_
    refine g_aload_n Γ (pc := 42) 0 dX7_feed_42 rfl rfl ?_
    refine g_get Γ (pc := 43) (v := .ref (sq Y 38)) dX7_feed_43 (C_main hC) fr_X7_41 rfl ?_
    refine g_get Γ (pc := 46) (v := .int (m3 38 2)) dX7_feed_46 (C_reader hC) fr_X7_246 rfl ?_
    exact rI ret dX7_feed_49 hf
  · refine g_ldc Γ (pc := 15) dX7_feed_15 kK_X7_79 ?_
    exact rI ret dX7_feed_17 hf
def f_X7_trim (a0 : Int32) (μ : Mem) : Option (Int32 × Mem) :=
  bn1 (f_X7_outside a0 0 (μ 38 2)) fun v1 =>
  if v1 = 0 then
    nm (mset μ 38 2 a0) fun m2 =>
    some (a0, m2)
  else
    some ((-1000000001), μ)
set_option maxRecDepth 100000 in
set_option maxHeartbeats 4000000 in
theorem c_X7_trim {Y : SYS} (hC : IsC Y) {a0 : Int32} {μ : Mem} {x : Int32} {m : Mem} (hf : f_X7_trim a0 μ = some (x, m)) : KC Y yX7_trim cX7_trim 2 (some .int) 1 [.ref (sq Y 0), .int a0] μ (some (.int x)) m := by
  refine KC.I RX7 [(0, .ref (sq Y 0)), (1, .int a0)] (by decide) rfl (Nat.le_of_ble_eq_true rfl) rfl (fun G Γ ret => ?_)
  unfold f_X7_trim at hf
  refine g_iload_n Γ (pc := 0) 1 dX7_trim_0 rfl rfl ?_
  refine g_iconst Γ (pc := 1) (v := 0) dX7_trim_1 rfl ?_
  refine g_aload_n Γ (pc := 2) 0 dX7_trim_2 rfl rfl ?_
  refine g_get Γ (pc := 3) (v := .ref (sq Y 38)) dX7_trim_3 (C_main hC) fr_X7_41 rfl ?_
  refine g_get Γ (pc := 6) (v := .int (μ 38 2)) dX7_trim_6 (C_reader hC) fr_X7_246 rfl ?_
  obtain ⟨v1, h1, hf⟩ := bn1_i hf
  refine g_callSI Γ (pc := 9) (as := [.int a0, .int 0, .int (μ 38 2)]) (st := []) dX7_trim_9 (c_X7_outside h1) mi_X7_outside ms_X7_outside kM_X7_71 rfl ⟨Nat.le_of_ble_eq_true rfl, Nat.le_of_ble_eq_true rfl⟩ rfl (Nat.le_of_ble_eq_true rfl) ?_
  refine g_if_eq Γ (pc := 12) (tgt := 18) dX7_trim_12 rfl hf (fun hf => ?_) (fun hf => ?_)
  · refine g_aload_n Γ (pc := 18) 0 dX7_trim_18 rfl rfl ?_
    refine g_get Γ (pc := 19) (v := .ref (sq Y 38)) dX7_trim_19 (C_main hC) fr_X7_41 rfl ?_
    refine g_iload_n Γ (pc := 22) 1 dX7_trim_22 rfl rfl ?_
    refine g_put Γ (pc := 23) dX7_trim_23 (C_reader hC) fw_X7_246 (Nat.le_of_ble_eq_true rfl) rfl ?_
    refine g_nmm hf (fun m2 hf => ?_)
    refine g_iload_n Γ (pc := 26) 1 dX7_trim_26 rfl rfl ?_
    exact rI ret dX7_trim_27 hf
  · refine g_ldc Γ (pc := 15) dX7_trim_15 kK_X7_75 ?_
    exact rI ret dX7_trim_17 hf
def f_X7_text (μ : Mem) : Option (Int32 × Mem) :=
  bn2 (f_X3_read μ) fun v1 m2 =>
  nm (mset m2 38 2 0) fun m3 =>
  if v1 = 0 then
    some (((-100) - (m2 38 3)), m3)
  else
    if (m3 21 14) < 14 then
      bn1 (f_X0_write (m3 21 14) m3) fun m4 =>
      nm (mset m4 21 14 ((m4 21 14) + 1)) fun m5 =>
      some (((m5 21 14) - 1), m5)
    else
      some ((-1000000003), m3)
set_option maxRecDepth 100000 in
set_option maxHeartbeats 4000000 in
theorem c_X7_text {Y : SYS} (hC : IsC Y) (hY : HasX Y) {μ : Mem} {x : Int32} {m : Mem} (hf : f_X7_text μ = some (x, m)) : KC Y yX7_text cX7_text 3 (some .int) 207 [.ref (sq Y 0)] μ (some (.int x)) m := by
  refine KC.I RX7 [(0, .ref (sq Y 0))] (by decide) rfl (Nat.le_of_ble_eq_true rfl) rfl (fun G Γ ret => ?_)
  unfold f_X7_text at hf
  refine g_aload_n Γ (pc := 0) 0 dX7_text_0 rfl rfl ?_
  refine g_get Γ (pc := 1) (v := .ref (sq Y 38)) dX7_text_1 (C_main hC) fr_X7_41 rfl ?_
  obtain ⟨v1, m2, h1, hf⟩ := bn2_i hf
  refine g_callVI Γ (pc := 4) (as := []) (st := []) dX7_text_4 (c_X3_read hC hY h1) (C_reader hC) rfl mi_X3_read mv_X3_read kM_X7_252 rfl ⟨Nat.le_of_ble_eq_true rfl, Nat.le_of_ble_eq_true rfl⟩ rfl (Nat.le_of_ble_eq_true rfl) ?_
  refine g_istore_n Γ (pc := 7) (lv' := [(1, .int v1), (0, .ref (sq Y 0))]) dX7_text_7 rfl (by decide) rfl ?_
  refine g_aload_n Γ (pc := 8) 1 dX7_text_8 rfl rfl ?_
  refine g_get Γ (pc := 9) (v := .ref (sq Y 38)) dX7_text_9 (C_main hC) fr_X7_41 rfl ?_
  refine g_get Γ (pc := 12) (v := .int (m2 38 3)) dX7_text_12 (C_reader hC) fr_X7_255 rfl ?_
  refine g_istore_n Γ (pc := 15) (lv' := [(2, .int (m2 38 3)), (1, .int v1), (0, .ref (sq Y 0))]) dX7_text_15 rfl (by decide) rfl ?_
  refine g_aload_n Γ (pc := 16) 2 dX7_text_16 rfl rfl ?_
  refine g_get Γ (pc := 17) (v := .ref (sq Y 38)) dX7_text_17 (C_main hC) fr_X7_41 rfl ?_
  refine g_iconst Γ (pc := 20) (v := 0) dX7_text_20 rfl ?_
  refine g_put Γ (pc := 21) dX7_text_21 (C_reader hC) fw_X7_246 (Nat.le_of_ble_eq_true rfl) rfl ?_
  refine g_nmm hf (fun m3 hf => ?_)
  refine g_iload_n Γ (pc := 24) 1 dX7_text_24 rfl rfl ?_
  refine g_if_ne Γ (pc := 25) (tgt := 33) dX7_text_25 rfl hf (fun hf => ?_) (fun hf => ?_)
  · refine g_aload_n Γ (pc := 33) 2 dX7_text_33 rfl rfl ?_
    refine g_get Γ (pc := 34) (v := .ref (sq Y 21)) dX7_text_34 (C_main hC) fr_X7_21 rfl ?_
    refine g_get Γ (pc := 37) (v := .int (m3 21 14)) dX7_text_37 (C_town hC (Or.inl rfl)) fr_X7_236 rfl ?_
    refine g_bipush Γ (pc := 40) (v := 14) dX7_text_40 rfl ?_
    refine g_icmp_lt Γ (pc := 42) (tgt := 48) dX7_text_42 rfl hf (fun hf => ?_) (fun hf => ?_)
    · refine g_aload_n Γ (pc := 48) 2 dX7_text_48 rfl rfl ?_
      refine g_get Γ (pc := 49) (v := .ref (sq Y 1)) dX7_text_49 (C_main hC) fr_X7_10 rfl ?_
      refine g_aload_n Γ (pc := 52) 2 dX7_text_52 rfl rfl ?_
      refine g_get Γ (pc := 53) (v := .ref (sq Y 21)) dX7_text_53 (C_main hC) fr_X7_21 rfl ?_
      refine g_get Γ (pc := 56) (v := .int (m3 21 14)) dX7_text_56 (C_town hC (Or.inl rfl)) fr_X7_236 rfl ?_
      refine g_aload_n Γ (pc := 59) 2 dX7_text_59 rfl rfl ?_
      refine g_get Γ (pc := 60) (v := .ref (sq Y 38)) dX7_text_60 (C_main hC) fr_X7_41 rfl ?_
      obtain ⟨m4, h1, hf⟩ := bn1_i hf
      refine g_callVV Γ (pc := 63) (as := [.int (m3 21 14), .ref (sq Y 38)]) (st := []) dX7_text_63 (c_X0_write hC h1) (C_book hC) rfl mi_X0_write mv_X0_write kM_X7_258 rfl ⟨Nat.le_of_ble_eq_true rfl, Nat.le_of_ble_eq_true rfl⟩ rfl (Nat.le_of_ble_eq_true rfl) ?_
      refine g_aload_n Γ (pc := 66) 2 dX7_text_66 rfl rfl ?_
      refine g_get Γ (pc := 67) (v := .ref (sq Y 21)) dX7_text_67 (C_main hC) fr_X7_21 rfl ?_
      refine g_dup Γ (pc := 70) dX7_text_70 rfl ?_
      refine g_get Γ (pc := 71) (v := .int (m4 21 14)) dX7_text_71 (C_town hC (Or.inl rfl)) fr_X7_236 rfl ?_
      refine g_iconst Γ (pc := 74) (v := 1) dX7_text_74 rfl ?_
      refine g_iadd Γ (pc := 75) dX7_text_75 ?_
      refine g_put Γ (pc := 76) dX7_text_76 (C_town hC (Or.inl rfl)) fw_X7_236 (Nat.le_of_ble_eq_true rfl) rfl ?_
      refine g_nmm hf (fun m5 hf => ?_)
      refine g_aload_n Γ (pc := 79) 2 dX7_text_79 rfl rfl ?_
      refine g_get Γ (pc := 80) (v := .ref (sq Y 21)) dX7_text_80 (C_main hC) fr_X7_21 rfl ?_
      refine g_get Γ (pc := 83) (v := .int (m5 21 14)) dX7_text_83 (C_town hC (Or.inl rfl)) fr_X7_236 rfl ?_
      refine g_iconst Γ (pc := 86) (v := 1) dX7_text_86 rfl ?_
      refine g_isub Γ (pc := 87) dX7_text_87 ?_
      exact rI ret dX7_text_88 hf
    · refine g_ldc Γ (pc := 45) dX7_text_45 kK_X7_79 ?_
      exact rI ret dX7_text_47 hf
  · refine g_bipush Γ (pc := 28) (v := (-100)) dX7_text_28 rfl ?_
    refine g_iload_n Γ (pc := 30) 0 dX7_text_30 rfl rfl ?_
    refine g_isub Γ (pc := 31) dX7_text_31 ?_
    exact rI ret dX7_text_32 hf
def f_X7_textTold (a0 : Int32) (a1 : Int32) (μ : Mem) : Option (Int32) :=
  bn1 (f_X7_outside a0 0 ((μ 21 14) - 1)) fun v1 =>
  if v1 = 0 then
    if a1 = 0 then
      bn1 (ldM (μ 2) 14 a0) fun v3 =>
      some v3
    else
      if a1 = 1 then
        bn1 (ldM (μ 3) 14 a0) fun v2 =>
        some v2
      else
        some (-1000000001)
  else
    some (-1000000001)
set_option maxRecDepth 100000 in
set_option maxHeartbeats 4000000 in
theorem c_X7_textTold {Y : SYS} (hC : IsC Y) {a0 : Int32} {a1 : Int32} {μ : Mem} {x : Int32} (hf : f_X7_textTold a0 a1 μ = some x) : KC Y yX7_textTold cX7_textTold 3 (some .int) 1 [.ref (sq Y 0), .int a0, .int a1] μ (some (.int x)) μ := by
  refine KC.I RX7 [(0, .ref (sq Y 0)), (1, .int a0), (2, .int a1)] (by decide) rfl (Nat.le_of_ble_eq_true rfl) rfl (fun G Γ ret => ?_)
  unfold f_X7_textTold at hf
  refine g_iload_n Γ (pc := 0) 1 dX7_textTold_0 rfl rfl ?_
  refine g_iconst Γ (pc := 1) (v := 0) dX7_textTold_1 rfl ?_
  refine g_aload_n Γ (pc := 2) 0 dX7_textTold_2 rfl rfl ?_
  refine g_get Γ (pc := 3) (v := .ref (sq Y 21)) dX7_textTold_3 (C_main hC) fr_X7_21 rfl ?_
  refine g_get Γ (pc := 6) (v := .int (μ 21 14)) dX7_textTold_6 (C_town hC (Or.inl rfl)) fr_X7_236 rfl ?_
  refine g_iconst Γ (pc := 9) (v := 1) dX7_textTold_9 rfl ?_
  refine g_isub Γ (pc := 10) dX7_textTold_10 ?_
  obtain ⟨v1, h1, hf⟩ := bn1_i hf
  refine g_callSI Γ (pc := 11) (as := [.int a0, .int 0, .int ((μ 21 14) - 1)]) (st := []) dX7_textTold_11 (c_X7_outside h1) mi_X7_outside ms_X7_outside kM_X7_71 rfl ⟨Nat.le_of_ble_eq_true rfl, Nat.le_of_ble_eq_true rfl⟩ rfl (Nat.le_of_ble_eq_true rfl) ?_
  refine g_if_eq Γ (pc := 14) (tgt := 20) dX7_textTold_14 rfl hf (fun hf => ?_) (fun hf => ?_)
  · refine g_iload_n Γ (pc := 20) 2 dX7_textTold_20 rfl rfl ?_
    by_cases h21_0 : a1 = 0
    · replace hf := ite_t h21_0 hf
      refine g_lin Γ (pc := 21) (off := 27) (tgt := 48) 0 dX7_textTold_21 h21_0 (by decide) rfl rfl ?_
      refine g_aload_n Γ (pc := 48) 0 dX7_textTold_48 rfl rfl ?_
      refine g_get Γ (pc := 49) (v := .ref (sq Y 1)) dX7_textTold_49 (C_main hC) fr_X7_10 rfl ?_
      refine g_get Γ (pc := 52) (v := .ref (sq Y 2)) dX7_textTold_52 (C_book hC) fr_X7_262 rfl ?_
      refine g_iload_n Γ (pc := 55) 1 dX7_textTold_55 rfl rfl ?_
      refine g_iald Γ (pc := 56) dX7_textTold_56 (C_2 hC) hf (fun v3 hf => ?_)
      exact rIr ret dX7_textTold_57 hf
    · replace hf := ite_f h21_0 hf
      by_cases h21_1 : a1 = 1
      · replace hf := ite_t h21_1 hf
        refine g_lin Γ (pc := 21) (off := 37) (tgt := 58) 1 dX7_textTold_21 h21_1 (by decide) rfl rfl ?_
        refine g_aload_n Γ (pc := 58) 0 dX7_textTold_58 rfl rfl ?_
        refine g_get Γ (pc := 59) (v := .ref (sq Y 1)) dX7_textTold_59 (C_main hC) fr_X7_10 rfl ?_
        refine g_get Γ (pc := 62) (v := .ref (sq Y 3)) dX7_textTold_62 (C_book hC) fr_X7_265 rfl ?_
        refine g_iload_n Γ (pc := 65) 1 dX7_textTold_65 rfl rfl ?_
        refine g_iald Γ (pc := 66) dX7_textTold_66 (C_3 hC) hf (fun v2 hf => ?_)
        exact rIr ret dX7_textTold_67 hf
      · replace hf := ite_f h21_1 hf
        refine g_lookup Γ (pc := 21) (off := 47) (tgt := 68) dX7_textTold_21 (by decide) (by show Op.lookupswitch.offset [(0, 27), (1, 37)] 47 _ = _; rw [Op.lookupswitch.offset_cons, if_neg (Ne.symm (ne_ti (k := 0) rfl h21_0)), Op.lookupswitch.offset_cons, if_neg (Ne.symm (ne_ti (k := 1) rfl h21_1))]; rfl) rfl ?_
        refine g_ldc Γ (pc := 68) dX7_textTold_68 kK_X7_75 ?_
        exact rIr ret dX7_textTold_70 hf
  · refine g_ldc Γ (pc := 17) dX7_textTold_17 kK_X7_75 ?_
    exact rIr ret dX7_textTold_19 hf
def f_X7_why (a0 : Int32) (μ : Mem) : Option (Int32) :=
  bn1 (f_X7_outside a0 0 2) fun v1 =>
  if v1 = 0 then
    bn1 (f_X0_counts a0 (μ 21 14) μ) fun v2 =>
    if 0 ≤ v2 then
      some v2
    else
      some (-1000000005)
  else
    some (-1000000001)
set_option maxRecDepth 100000 in
set_option maxHeartbeats 4000000 in
theorem c_X7_why {Y : SYS} (hC : IsC Y) {a0 : Int32} {μ : Mem} {x : Int32} (hf : f_X7_why a0 μ = some x) : KC Y yX7_why cX7_why 3 (some .int) 2 [.ref (sq Y 0), .int a0] μ (some (.int x)) μ := by
  refine KC.I RX7 [(0, .ref (sq Y 0)), (1, .int a0)] (by decide) rfl (Nat.le_of_ble_eq_true rfl) rfl (fun G Γ ret => ?_)
  unfold f_X7_why at hf
  refine g_iload_n Γ (pc := 0) 1 dX7_why_0 rfl rfl ?_
  refine g_iconst Γ (pc := 1) (v := 0) dX7_why_1 rfl ?_
  refine g_iconst Γ (pc := 2) (v := 2) dX7_why_2 rfl ?_
  obtain ⟨v1, h1, hf⟩ := bn1_i hf
  refine g_callSI Γ (pc := 3) (as := [.int a0, .int 0, .int 2]) (st := []) dX7_why_3 (c_X7_outside h1) mi_X7_outside ms_X7_outside kM_X7_71 rfl ⟨Nat.le_of_ble_eq_true rfl, Nat.le_of_ble_eq_true rfl⟩ rfl (Nat.le_of_ble_eq_true rfl) ?_
  refine g_if_eq Γ (pc := 6) (tgt := 12) dX7_why_6 rfl hf (fun hf => ?_) (fun hf => ?_)
  · refine g_aload_n Γ (pc := 12) 0 dX7_why_12 rfl rfl ?_
    refine g_get Γ (pc := 13) (v := .ref (sq Y 1)) dX7_why_13 (C_main hC) fr_X7_10 rfl ?_
    refine g_iload_n Γ (pc := 16) 1 dX7_why_16 rfl rfl ?_
    refine g_aload_n Γ (pc := 17) 0 dX7_why_17 rfl rfl ?_
    refine g_get Γ (pc := 18) (v := .ref (sq Y 21)) dX7_why_18 (C_main hC) fr_X7_21 rfl ?_
    refine g_get Γ (pc := 21) (v := .int (μ 21 14)) dX7_why_21 (C_town hC (Or.inl rfl)) fr_X7_236 rfl ?_
    obtain ⟨v2, h1, hf⟩ := bn1_i hf
    refine g_callVI Γ (pc := 24) (as := [.int a0, .int (μ 21 14)]) (st := []) dX7_why_24 (c_X0_counts hC h1) (C_book hC) rfl mi_X0_counts mv_X0_counts kM_X7_239 rfl ⟨Nat.le_of_ble_eq_true rfl, Nat.le_of_ble_eq_true rfl⟩ rfl (Nat.le_of_ble_eq_true rfl) ?_
    refine g_istore_n Γ (pc := 27) (lv' := [(2, .int v2), (0, .ref (sq Y 0)), (1, .int a0)]) dX7_why_27 rfl (by decide) rfl ?_
    refine g_iload_n Γ (pc := 28) 0 dX7_why_28 rfl rfl ?_
    refine g_if_ge Γ (pc := 29) (tgt := 37) dX7_why_29 rfl hf (fun hf => ?_) (fun hf => ?_)
    · refine g_iload_n Γ (pc := 37) 0 dX7_why_37 rfl rfl ?_
      exact rIr ret dX7_why_38 hf
    · refine g_ldc Γ (pc := 32) dX7_why_32 kK_X7_197 ?_
      refine g_goto Γ (pc := 34) (tgt := 38) dX7_why_34 rfl ?_
      exact rIr ret dX7_why_38 hf
  · refine g_ldc Γ (pc := 9) dX7_why_9 kK_X7_75 ?_
    exact rIr ret dX7_why_11 hf
def f_X7_sheet (a0 : Int32) (a1 : Int32) (a2 : Int32) (μ : Mem) : Option (Int32 × Mem) :=
  bn1 (f_X7_isNoSheet a0) fun v1 =>
  if v1 = 0 then
    bn1 (f_X7_outside a1 (-1) 1) fun v2 =>
    if v2 = 0 then
      if a1 = (-1) then
        bn1 (rdM 4 a0) fun j5 =>
        bn1 (f_X4_begin (42 + 2 * j5) (-1) 0 μ) fun m6 =>
        some (0, m6)
      else
        if a2 ≤ 24 then
          if 0 ≤ a2 then
            bn1 (rdM 4 a0) fun j3 =>
            bn1 (f_X4_begin (42 + 2 * j3) a1 a2 μ) fun m4 =>
            some (a2, m4)
          else
            some ((-1000000014), μ)
        else
          some ((-1000000001), μ)
    else
      some ((-1000000001), μ)
  else
    some ((-1000000001), μ)
set_option maxRecDepth 100000 in
set_option maxHeartbeats 4000000 in
theorem c_X7_sheet {Y : SYS} (hC : IsC Y) {a0 : Int32} {a1 : Int32} {a2 : Int32} {μ : Mem} {x : Int32} {m : Mem} (hf : f_X7_sheet a0 a1 a2 μ = some (x, m)) : KC Y yX7_sheet cX7_sheet 4 (some .int) 2 [.ref (sq Y 0), .int a0, .int a1, .int a2] μ (some (.int x)) m := by
  refine KC.I RX7 [(0, .ref (sq Y 0)), (1, .int a0), (2, .int a1), (3, .int a2)] (by decide) rfl (Nat.le_of_ble_eq_true rfl) rfl (fun G Γ ret => ?_)
  unfold f_X7_sheet at hf
  refine g_iload_n Γ (pc := 0) 1 dX7_sheet_0 rfl rfl ?_
  obtain ⟨v1, h1, hf⟩ := bn1_i hf
  refine g_callSI Γ (pc := 1) (as := [.int a0]) (st := []) dX7_sheet_1 (c_X7_isNoSheet h1) mi_X7_isNoSheet ms_X7_isNoSheet kM_X7_211 rfl ⟨Nat.le_of_ble_eq_true rfl, Nat.le_of_ble_eq_true rfl⟩ rfl (Nat.le_of_ble_eq_true rfl) ?_
  refine g_if_ne Γ (pc := 4) (tgt := 16) dX7_sheet_4 rfl hf (fun hf => ?_) (fun hf => ?_)
  · refine g_ldc Γ (pc := 16) dX7_sheet_16 kK_X7_75 ?_
    exact rI ret dX7_sheet_18 hf
  · refine g_iload_n Γ (pc := 7) 2 dX7_sheet_7 rfl rfl ?_
    refine g_iconst Γ (pc := 8) (v := (-1)) dX7_sheet_8 rfl ?_
    refine g_iconst Γ (pc := 9) (v := 1) dX7_sheet_9 rfl ?_
    obtain ⟨v2, h1, hf⟩ := bn1_i hf
    refine g_callSI Γ (pc := 10) (as := [.int a1, .int (-1), .int 1]) (st := []) dX7_sheet_10 (c_X7_outside h1) mi_X7_outside ms_X7_outside kM_X7_71 rfl ⟨Nat.le_of_ble_eq_true rfl, Nat.le_of_ble_eq_true rfl⟩ rfl (Nat.le_of_ble_eq_true rfl) ?_
    refine g_if_eq Γ (pc := 13) (tgt := 19) dX7_sheet_13 rfl hf (fun hf => ?_) (fun hf => ?_)
    · refine g_iload_n Γ (pc := 19) 2 dX7_sheet_19 rfl rfl ?_
      refine g_iconst Γ (pc := 20) (v := (-1)) dX7_sheet_20 rfl ?_
      refine g_icmp_ne Γ (pc := 21) (tgt := 37) dX7_sheet_21 rfl hf (fun hf => ?_) (fun hf => ?_)
      · refine g_iload_n Γ (pc := 37) 3 dX7_sheet_37 rfl rfl ?_
        refine g_bipush Γ (pc := 38) (v := 24) dX7_sheet_38 rfl ?_
        refine g_icmp_le Γ (pc := 40) (tgt := 46) dX7_sheet_40 rfl hf (fun hf => ?_) (fun hf => ?_)
        · refine g_iload_n Γ (pc := 46) 3 dX7_sheet_46 rfl rfl ?_
          refine g_if_ge Γ (pc := 47) (tgt := 54) dX7_sheet_47 rfl hf (fun hf => ?_) (fun hf => ?_)
          · refine g_aload_n Γ (pc := 54) 0 dX7_sheet_54 rfl rfl ?_
            refine g_get Γ (pc := 55) (v := .ref (sq Y 41)) dX7_sheet_55 (C_main hC) fr_X7_47 rfl ?_
            refine g_iload_n Γ (pc := 58) 1 dX7_sheet_58 rfl rfl ?_
            refine g_aaldT Γ (pc := 59) dX7_sheet_59 (C_sheets hC) hf (fun j3 hj3 hf => ?_)
            refine g_iload_n Γ (pc := 60) 2 dX7_sheet_60 rfl rfl ?_
            refine g_iload_n Γ (pc := 61) 3 dX7_sheet_61 rfl rfl ?_
            obtain ⟨m4, h1, hf⟩ := bn1_i hf
            refine g_callVV Γ (pc := 62) (as := [.int a1, .int a2]) (st := []) dX7_sheet_62 (c_X4_begin hC (RowAt.sheet hj3) h1) (C_row hC (RowAt.sheet hj3)) rfl mi_X4_begin mv_X4_begin kM_X7_268 rfl ⟨Nat.le_of_ble_eq_true rfl, Nat.le_of_ble_eq_true rfl⟩ rfl (Nat.le_of_ble_eq_true rfl) ?_
            refine g_iload_n Γ (pc := 65) 3 dX7_sheet_65 rfl rfl ?_
            exact rI ret dX7_sheet_66 hf
          · refine g_ldcw Γ (pc := 50) dX7_sheet_50 kK_X7_272 ?_
            exact rI ret dX7_sheet_53 hf
        · refine g_ldc Γ (pc := 43) dX7_sheet_43 kK_X7_75 ?_
          exact rI ret dX7_sheet_45 hf
      · refine g_aload_n Γ (pc := 24) 0 dX7_sheet_24 rfl rfl ?_
        refine g_get Γ (pc := 25) (v := .ref (sq Y 41)) dX7_sheet_25 (C_main hC) fr_X7_47 rfl ?_
        refine g_iload_n Γ (pc := 28) 1 dX7_sheet_28 rfl rfl ?_
        refine g_aaldT Γ (pc := 29) dX7_sheet_29 (C_sheets hC) hf (fun j5 hj5 hf => ?_)
        refine g_iconst Γ (pc := 30) (v := (-1)) dX7_sheet_30 rfl ?_
        refine g_iconst Γ (pc := 31) (v := 0) dX7_sheet_31 rfl ?_
        obtain ⟨m6, h1, hf⟩ := bn1_i hf
        refine g_callVV Γ (pc := 32) (as := [.int (-1), .int 0]) (st := []) dX7_sheet_32 (c_X4_begin hC (RowAt.sheet hj5) h1) (C_row hC (RowAt.sheet hj5)) rfl mi_X4_begin mv_X4_begin kM_X7_268 rfl ⟨Nat.le_of_ble_eq_true rfl, Nat.le_of_ble_eq_true rfl⟩ rfl (Nat.le_of_ble_eq_true rfl) ?_
        refine g_iconst Γ (pc := 35) (v := 0) dX7_sheet_35 rfl ?_
        exact rI ret dX7_sheet_36 hf
    · refine g_ldc Γ (pc := 16) dX7_sheet_16 kK_X7_75 ?_
      exact rI ret dX7_sheet_18 hf
def f_X7_mark_J92 (a1 : Int32) (a2 : Int32) (μ : Mem) (j2 : Nat) : Option (Int32 × Mem) :=
  bn1 (stM μ ((42 + 2 * j2) + 1) 24 a1 a2) fun m5 =>
  some (1, m5)
def f_X7_mark (a0 : Int32) (a1 : Int32) (a2 : Int32) (μ : Mem) : Option (Int32 × Mem) :=
  bn1 (f_X7_isNoSheet a0) fun v1 =>
  if v1 = 0 then
    bn1 (rdM 4 a0) fun j2 =>
    bn1 (f_X4_isMissing (42 + 2 * j2) μ) fun v3 =>
    if v3 = 0 then
      bn1 (f_X4_hasNo (42 + 2 * j2) a1 μ) fun v4 =>
      if v4 = 0 then
        if (μ (42 + 2 * j2) 1) = 0 then
          if a2 = (-1000000005) then
            some ((-1000000012), μ)
          else
            bn1 (stM μ ((42 + 2 * j2) + 1) 24 a1 a2.toInt16.toInt32) fun m7 =>
            some (1, m7)
        else
          if a2 = (-1000000005) then
            f_X7_mark_J92 a1 a2 μ j2
          else
            bn1 (f_X7_outside a2 (-99999) 99999) fun v6 =>
            if v6 = 0 then
              f_X7_mark_J92 a1 a2 μ j2
            else
              some ((-1000000001), μ)
      else
        some ((-1000000013), μ)
    else
      some ((-1000000011), μ)
  else
    some ((-1000000001), μ)
set_option maxRecDepth 100000 in
set_option maxHeartbeats 4000000 in
theorem c_X7_mark {Y : SYS} (hC : IsC Y) {a0 : Int32} {a1 : Int32} {a2 : Int32} {μ : Mem} {x : Int32} {m : Mem} (hf : f_X7_mark a0 a1 a2 μ = some (x, m)) : KC Y yX7_mark cX7_mark 5 (some .int) 2 [.ref (sq Y 0), .int a0, .int a1, .int a2] μ (some (.int x)) m := by
  refine KC.I RX7 [(0, .ref (sq Y 0)), (1, .int a0), (2, .int a1), (3, .int a2)] (by decide) rfl (Nat.le_of_ble_eq_true rfl) rfl (fun G Γ ret => ?_)
  unfold f_X7_mark at hf
  refine g_iload_n Γ (pc := 0) 1 dX7_mark_0 rfl rfl ?_
  obtain ⟨v1, h1, hf⟩ := bn1_i hf
  refine g_callSI Γ (pc := 1) (as := [.int a0]) (st := []) dX7_mark_1 (c_X7_isNoSheet h1) mi_X7_isNoSheet ms_X7_isNoSheet kM_X7_211 rfl ⟨Nat.le_of_ble_eq_true rfl, Nat.le_of_ble_eq_true rfl⟩ rfl (Nat.le_of_ble_eq_true rfl) ?_
  refine g_if_eq Γ (pc := 4) (tgt := 10) dX7_mark_4 rfl hf (fun hf => ?_) (fun hf => ?_)
  · refine g_aload_n Γ (pc := 10) 0 dX7_mark_10 rfl rfl ?_
    refine g_get Γ (pc := 11) (v := .ref (sq Y 41)) dX7_mark_11 (C_main hC) fr_X7_47 rfl ?_
    refine g_iload_n Γ (pc := 14) 1 dX7_mark_14 rfl rfl ?_
    refine g_aaldT Γ (pc := 15) dX7_mark_15 (C_sheets hC) hf (fun j2 hj2 hf => ?_)
    refine g_astore Γ (pc := 16) (lv' := [(4, .ref (sq Y (42 + 2 * j2))), (0, .ref (sq Y 0)), (1, .int a0), (2, .int a1), (3, .int a2)]) dX7_mark_16 (by decide) rfl ?_
    refine g_aload Γ (pc := 18) 0 dX7_mark_18 rfl ?_
    obtain ⟨v3, h1, hf⟩ := bn1_i hf
    refine g_callVI Γ (pc := 20) (as := []) (st := []) dX7_mark_20 (c_X4_isMissing hC (RowAt.sheet hj2) h1) (C_row hC (RowAt.sheet hj2)) rfl mi_X4_isMissing mv_X4_isMissing kM_X7_214 rfl ⟨Nat.le_of_ble_eq_true rfl, Nat.le_of_ble_eq_true rfl⟩ rfl (Nat.le_of_ble_eq_true rfl) ?_
    refine g_if_eq Γ (pc := 23) (tgt := 29) dX7_mark_23 rfl hf (fun hf => ?_) (fun hf => ?_)
    · refine g_aload Γ (pc := 29) 0 dX7_mark_29 rfl ?_
      refine g_iload_n Γ (pc := 31) 3 dX7_mark_31 rfl rfl ?_
      obtain ⟨v4, h1, hf⟩ := bn1_i hf
      refine g_callVI Γ (pc := 32) (as := [.int a1]) (st := []) dX7_mark_32 (c_X4_hasNo hC (RowAt.sheet hj2) h1) (C_row hC (RowAt.sheet hj2)) rfl mi_X4_hasNo mv_X4_hasNo kM_X7_273 rfl ⟨Nat.le_of_ble_eq_true rfl, Nat.le_of_ble_eq_true rfl⟩ rfl (Nat.le_of_ble_eq_true rfl) ?_
      refine g_if_eq Γ (pc := 35) (tgt := 42) dX7_mark_35 rfl hf (fun hf => ?_) (fun hf => ?_)
      · refine g_aload Γ (pc := 42) 0 dX7_mark_42 rfl ?_
        refine g_get Γ (pc := 44) (v := .int (μ (42 + 2 * j2) 1)) dX7_mark_44 (C_row hC (RowAt.sheet hj2)) fr_X7_277 rfl ?_
        refine g_if_ne Γ (pc := 47) (tgt := 70) dX7_mark_47 rfl hf (fun hf => ?_) (fun hf => ?_)
        · refine g_iload_n Γ (pc := 70) 4 dX7_mark_70 rfl rfl ?_
          refine g_ldc Γ (pc := 71) dX7_mark_71 kK_X7_197 ?_
          have J_92 : f_X7_mark_J92 a1 a2 μ j2 = some (x, m) → G 92 [(2, .int a1), (3, .int a2), (4, .ref (sq Y (42 + 2 * j2)))] [] μ := by
            intro hf
            unfold f_X7_mark_J92 at hf
            refine g_aload Γ (pc := 92) 2 dX7_mark_92 rfl ?_
            refine g_get Γ (pc := 94) (v := .ref (sq Y ((42 + 2 * j2) + 1))) dX7_mark_94 (C_row hC (RowAt.sheet hj2)) fr_X7_230 rfl ?_
            refine g_iload_n Γ (pc := 97) 0 dX7_mark_97 rfl rfl ?_
            refine g_iload_n Γ (pc := 98) 1 dX7_mark_98 rfl rfl ?_
            refine g_iast Γ (pc := 99) dX7_mark_99 (C_row1 hC (RowAt.sheet hj2)) hf (fun m5 hf => ?_)
            refine g_iconst Γ (pc := 100) (v := 1) dX7_mark_100 rfl ?_
            exact rI ret dX7_mark_101 hf
          refine g_icmp_eq Γ (pc := 73) (tgt := 92) dX7_mark_73 rfl hf (fun hf => ?_) (fun hf => ?_)
          · refine g_sub Γ [3, 4, 0] rfl ?_
            exact J_92 hf
          · refine g_iload_n Γ (pc := 76) 4 dX7_mark_76 rfl rfl ?_
            refine g_ldcw Γ (pc := 77) dX7_mark_77 kK_X7_280 ?_
            refine g_ldcw Γ (pc := 80) dX7_mark_80 kK_X7_281 ?_
            obtain ⟨v6, h1, hf⟩ := bn1_i hf
            refine g_callSI Γ (pc := 83) (as := [.int a2, .int (-99999), .int 99999]) (st := []) dX7_mark_83 (c_X7_outside h1) mi_X7_outside ms_X7_outside kM_X7_71 rfl ⟨Nat.le_of_ble_eq_true rfl, Nat.le_of_ble_eq_true rfl⟩ rfl (Nat.le_of_ble_eq_true rfl) ?_
            refine g_if_eq Γ (pc := 86) (tgt := 92) dX7_mark_86 rfl hf (fun hf => ?_) (fun hf => ?_)
            · refine g_sub Γ [3, 4, 0] rfl ?_
              exact J_92 hf
            · refine g_ldc Γ (pc := 89) dX7_mark_89 kK_X7_75 ?_
              exact rI ret dX7_mark_91 hf
        · refine g_iload_n Γ (pc := 50) 4 dX7_mark_50 rfl rfl ?_
          refine g_ldc Γ (pc := 51) dX7_mark_51 kK_X7_197 ?_
          refine g_icmp_ne Γ (pc := 53) (tgt := 59) dX7_mark_53 rfl hf (fun hf => ?_) (fun hf => ?_)
          · refine g_aload Γ (pc := 59) 0 dX7_mark_59 rfl ?_
            refine g_get Γ (pc := 61) (v := .ref (sq Y ((42 + 2 * j2) + 1))) dX7_mark_61 (C_row hC (RowAt.sheet hj2)) fr_X7_230 rfl ?_
            refine g_iload_n Γ (pc := 64) 3 dX7_mark_64 rfl rfl ?_
            refine g_iload_n Γ (pc := 65) 4 dX7_mark_65 rfl rfl ?_
            refine g_i2s Γ (pc := 66) dX7_mark_66 ?_
            refine g_iast Γ (pc := 67) dX7_mark_67 (C_row1 hC (RowAt.sheet hj2)) hf (fun m7 hf => ?_)
            refine g_iconst Γ (pc := 68) (v := 1) dX7_mark_68 rfl ?_
            exact rI ret dX7_mark_69 hf
          · refine g_ldc Γ (pc := 56) dX7_mark_56 kK_X7_123 ?_
            exact rI ret dX7_mark_58 hf
      · refine g_ldcw Γ (pc := 38) dX7_mark_38 kK_X7_276 ?_
        exact rI ret dX7_mark_41 hf
    · refine g_ldc Γ (pc := 26) dX7_mark_26 kK_X7_218 ?_
      exact rI ret dX7_mark_28 hf
  · refine g_ldc Γ (pc := 7) dX7_mark_7 kK_X7_75 ?_
    exact rI ret dX7_mark_9 hf
def f_X7_pour_K48_122 (y3_5 : Int32) (m6 : Mem) : Option (Int32 × Mem) :=
  some (y3_5, m6)
def f_X7_pour_J116 (x5_8 : Int32) (x3_13 : Int32) (m14 : Mem) : Option ((Int32 × Int32 × Mem) ⊕ (Int32 × Mem)) :=
  some (.inl (x3_13, x5_8 + 1, m14))
def f_X7_pour_J101 (x3_7 : Int32) (x5_8 : Int32) (m9 : Mem) (s11 : Int32) (s16 : Int32) : Option ((Int32 × Int32 × Mem) ⊕ (Int32 × Mem)) :=
  if s11 = s16 then
    f_X7_pour_J116 x5_8 x3_7 m9
  else
    bn1 (f_X6_flip 21 x5_8 m9) fun m17 =>
    f_X7_pour_J116 x5_8 (x3_7 + 1) m17
def f_X7_pour_J70 (j2 : Nat) (x3_7 : Int32) (x5_8 : Int32) (m9 : Mem) (s11 : Int32) : Option ((Int32 × Int32 × Mem) ⊕ (Int32 × Mem)) :=
  bn1 (f_X4_isNumber (42 + 2 * j2) x5_8 m9) fun v12 =>
  if v12 = 0 then
    f_X7_pour_J116 x5_8 x3_7 m9
  else
    bn1 (f_X6_mindOf 21 x5_8 m9) fun v15 =>
    if v15 = 1 then
      f_X7_pour_J101 x3_7 x5_8 m9 s11 1
    else
      f_X7_pour_J101 x3_7 x5_8 m9 s11 0
def f_X7_pour_L48 (j2 : Nat) (e4 : Int32) (x3_7 : Int32) (x5_8 : Int32) (m9 : Mem) : Option ((Int32 × Int32 × Mem) ⊕ (Int32 × Mem)) :=
  if e4 ≤ x5_8 then
    some (.inr (x3_7, m9))
  else
    bn1 (ldM (m9 ((42 + 2 * j2) + 1)) 24 x5_8) fun v10 =>
    if v10 ≤ 0 then
      f_X7_pour_J70 j2 x3_7 x5_8 m9 0
    else
      f_X7_pour_J70 j2 x3_7 x5_8 m9 1
def f_X7_pour (a0 : Int32) (μ : Mem) : Option (Int32 × Mem) :=
  bn1 (f_X7_isNoSheet a0) fun v1 =>
  if v1 = 0 then
    bn1 (rdM 4 a0) fun j2 =>
    bn1 (f_X4_isMissing (42 + 2 * j2) μ) fun v3 =>
    if v3 = 0 then
      nm (if (μ 21 5) < (μ (42 + 2 * j2) 2) then (μ 21 5) else (μ (42 + 2 * j2) 2)) fun e4 =>
      bn1 (lpF (fun v => f_X7_pour_L48 j2 e4 v.1 v.2.1 v.2.2) 4000 (0, 0, μ)) (fun x => f_X7_pour_K48_122 x.1 x.2)
    else
      some ((-1000000011), μ)
  else
    some ((-1000000001), μ)
set_option maxRecDepth 100000 in
set_option maxHeartbeats 4000000 in
theorem c_X7_pour {Y : SYS} (hC : IsC Y) {a0 : Int32} {μ : Mem} {x : Int32} {m : Mem} (hf : f_X7_pour a0 μ = some (x, m)) : KC Y yX7_pour cX7_pour 7 (some .int) 2 [.ref (sq Y 0), .int a0] μ (some (.int x)) m := by
  refine KC.I RX7 [(0, .ref (sq Y 0)), (1, .int a0)] (by decide) rfl (Nat.le_of_ble_eq_true rfl) rfl (fun G Γ ret => ?_)
  unfold f_X7_pour at hf
  refine g_iload_n Γ (pc := 0) 1 dX7_pour_0 rfl rfl ?_
  obtain ⟨v1, h1, hf⟩ := bn1_i hf
  refine g_callSI Γ (pc := 1) (as := [.int a0]) (st := []) dX7_pour_1 (c_X7_isNoSheet h1) mi_X7_isNoSheet ms_X7_isNoSheet kM_X7_211 rfl ⟨Nat.le_of_ble_eq_true rfl, Nat.le_of_ble_eq_true rfl⟩ rfl (Nat.le_of_ble_eq_true rfl) ?_
  refine g_if_eq Γ (pc := 4) (tgt := 10) dX7_pour_4 rfl hf (fun hf => ?_) (fun hf => ?_)
  · refine g_aload_n Γ (pc := 10) 0 dX7_pour_10 rfl rfl ?_
    refine g_get Γ (pc := 11) (v := .ref (sq Y 41)) dX7_pour_11 (C_main hC) fr_X7_47 rfl ?_
    refine g_iload_n Γ (pc := 14) 1 dX7_pour_14 rfl rfl ?_
    refine g_aaldT Γ (pc := 15) dX7_pour_15 (C_sheets hC) hf (fun j2 hj2 hf => ?_)
    refine g_astore_n Γ (pc := 16) (lv' := [(2, .ref (sq Y (42 + 2 * j2))), (0, .ref (sq Y 0)), (1, .int a0)]) dX7_pour_16 rfl (by decide) rfl ?_
    refine g_aload_n Γ (pc := 17) 0 dX7_pour_17 rfl rfl ?_
    obtain ⟨v3, h1, hf⟩ := bn1_i hf
    refine g_callVI Γ (pc := 18) (as := []) (st := []) dX7_pour_18 (c_X4_isMissing hC (RowAt.sheet hj2) h1) (C_row hC (RowAt.sheet hj2)) rfl mi_X4_isMissing mv_X4_isMissing kM_X7_214 rfl ⟨Nat.le_of_ble_eq_true rfl, Nat.le_of_ble_eq_true rfl⟩ rfl (Nat.le_of_ble_eq_true rfl) ?_
    refine g_if_eq Γ (pc := 21) (tgt := 27) dX7_pour_21 rfl hf (fun hf => ?_) (fun hf => ?_)
    · refine g_iconst Γ (pc := 27) (v := 0) dX7_pour_27 rfl ?_
      refine g_istore_n Γ (pc := 28) (lv' := [(3, .int 0), (2, .ref (sq Y (42 + 2 * j2))), (0, .ref (sq Y 0)), (1, .int a0)]) dX7_pour_28 rfl (by decide) rfl ?_
      refine g_aload_n Γ (pc := 29) 1 dX7_pour_29 rfl rfl ?_
      refine g_get Γ (pc := 30) (v := .int (μ (42 + 2 * j2) 2)) dX7_pour_30 (C_row hC (RowAt.sheet hj2)) fr_X7_223 rfl ?_
      refine g_aload_n Γ (pc := 33) 2 dX7_pour_33 rfl rfl ?_
      refine g_get Γ (pc := 34) (v := .ref (sq Y 21)) dX7_pour_34 (C_main hC) fr_X7_21 rfl ?_
      refine g_get Γ (pc := 37) (v := .int (μ 21 5)) dX7_pour_37 (C_town hC (Or.inl rfl)) fr_X7_76 rfl ?_
      refine g_min Γ (pc := 40) dX7_pour_40 kM_X7_149 kS_Math_min kI_J9 kC_Math_min (Nat.le_of_ble_eq_true rfl) (Nat.le_of_ble_eq_true rfl) ?_
      refine g_nmi hf (fun e4 hf => ?_)
      refine g_istore Γ (pc := 43) (lv' := [(4, .int e4), (3, .int 0), (2, .ref (sq Y (42 + 2 * j2))), (0, .ref (sq Y 0)), (1, .int a0)]) dX7_pour_43 (by decide) rfl ?_
      refine g_iconst Γ (pc := 45) (v := 0) dX7_pour_45 rfl ?_
      refine g_istore Γ (pc := 46) (lv' := [(5, .int 0), (4, .int e4), (3, .int 0), (2, .ref (sq Y (42 + 2 * j2))), (0, .ref (sq Y 0)), (1, .int a0)]) dX7_pour_46 (by decide) rfl ?_
      have K_48_122 : ∀ (y3_5 : Int32) (m6 : Mem), f_X7_pour_K48_122 y3_5 m6 = some (x, m) → G 122 [(3, .int y3_5)] [] m6 := by
        intro y3_5 m6 hf
        unfold f_X7_pour_K48_122 at hf
        refine g_iload_n Γ (pc := 122) 0 dX7_pour_122 rfl rfl ?_
        exact rI ret dX7_pour_123 hf
      refine g_sub Γ [4, 3, 2, 1, 0] rfl ?_
      refine lpF_s (P := fun (v : Int32 × Int32 × Mem) => G 48 [(0, .ref (sq Y 0)), (2, .ref (sq Y (42 + 2 * j2))), (3, .int v.1), (4, .int e4), (5, .int v.2.1)] [] v.2.2) hf (fun v z1 hf kI1 kX1 => ?_)
      obtain ⟨x3_7, x5_8, m9⟩ := v
      replace hf : f_X7_pour_L48 j2 e4 x3_7 x5_8 m9 = some z1 := hf
      show G 48 [(0, .ref (sq Y 0)), (2, .ref (sq Y (42 + 2 * j2))), (3, .int x3_7), (4, .int e4), (5, .int x5_8)] [] m9
      unfold f_X7_pour_L48 at hf
      refine g_iload Γ (pc := 48) 4 dX7_pour_48 rfl ?_
      refine g_iload Γ (pc := 50) 3 dX7_pour_50 rfl ?_
      refine g_icmp_ge Γ (pc := 52) (tgt := 122) dX7_pour_52 rfl hf (fun hf => ?_) (fun hf => ?_)
      · refine g_sub Γ [2] rfl ?_
        exact K_48_122 x3_7 m9 (kX1 (x3_7, m9) (Option.some.inj hf).symm)
      · refine g_aload_n Γ (pc := 55) 1 dX7_pour_55 rfl rfl ?_
        refine g_get Γ (pc := 56) (v := .ref (sq Y ((42 + 2 * j2) + 1))) dX7_pour_56 (C_row hC (RowAt.sheet hj2)) fr_X7_230 rfl ?_
        refine g_iload Γ (pc := 59) 4 dX7_pour_59 rfl ?_
        refine g_iald Γ (pc := 61) dX7_pour_61 (C_row1 hC (RowAt.sheet hj2)) hf (fun v10 hf => ?_)
        have J_70 : ∀ (s11 : Int32), f_X7_pour_J70 j2 x3_7 x5_8 m9 s11 = some z1 → G 70 [(0, .ref (sq Y 0)), (2, .ref (sq Y (42 + 2 * j2))), (3, .int x3_7), (4, .int e4), (5, .int x5_8)] [.int s11] m9 := by
          intro s11 hf
          unfold f_X7_pour_J70 at hf
          refine g_istore Γ (pc := 70) (lv' := [(6, .int s11), (0, .ref (sq Y 0)), (2, .ref (sq Y (42 + 2 * j2))), (3, .int x3_7), (4, .int e4), (5, .int x5_8)]) dX7_pour_70 (by decide) rfl ?_
          refine g_aload_n Γ (pc := 72) 2 dX7_pour_72 rfl rfl ?_
          refine g_iload Γ (pc := 73) 5 dX7_pour_73 rfl ?_
          obtain ⟨v12, h1, hf⟩ := bn1_i hf
          refine g_callVI Γ (pc := 75) (as := [.int x5_8]) (st := []) dX7_pour_75 (c_X4_isNumber hC (RowAt.sheet hj2) h1) (C_row hC (RowAt.sheet hj2)) rfl mi_X4_isNumber mv_X4_isNumber kM_X7_224 rfl ⟨Nat.le_of_ble_eq_true rfl, Nat.le_of_ble_eq_true rfl⟩ rfl (Nat.le_of_ble_eq_true rfl) ?_
          have J_116 : ∀ (x3_13 : Int32) (m14 : Mem), f_X7_pour_J116 x5_8 x3_13 m14 = some z1 → G 116 [(0, .ref (sq Y 0)), (2, .ref (sq Y (42 + 2 * j2))), (3, .int x3_13), (4, .int e4), (5, .int x5_8)] [] m14 := by
            intro x3_13 m14 hf
            unfold f_X7_pour_J116 at hf
            refine g_iinc Γ (pc := 116) (v := x5_8 + 1) (lv' := [(5, .int (x5_8 + 1)), (0, .ref (sq Y 0)), (2, .ref (sq Y (42 + 2 * j2))), (3, .int x3_13), (4, .int e4)]) 4 dX7_pour_116 rfl rfl (by decide) rfl ?_
            refine g_goto Γ (pc := 119) (tgt := 48) dX7_pour_119 rfl ?_
            refine g_sub Γ [1, 2, 3, 4, 0] rfl ?_
            exact kI1 (x3_13, x5_8 + 1, m14) (Option.some.inj hf).symm
          refine g_if_eq Γ (pc := 78) (tgt := 116) dX7_pour_78 rfl hf (fun hf => ?_) (fun hf => ?_)
          · refine g_sub Γ [1, 2, 3, 4, 5] rfl ?_
            exact J_116 x3_7 m9 hf
          · refine g_iload Γ (pc := 81) 0 dX7_pour_81 rfl ?_
            refine g_aload_n Γ (pc := 83) 1 dX7_pour_83 rfl rfl ?_
            refine g_get Γ (pc := 84) (v := .ref (sq Y 21)) dX7_pour_84 (C_main hC) fr_X7_21 rfl ?_
            refine g_iload Γ (pc := 87) 5 dX7_pour_87 rfl ?_
            obtain ⟨v15, h1, hf⟩ := bn1_i hf
            refine g_callVI Γ (pc := 89) (as := [.int x5_8]) (st := [.int s11]) dX7_pour_89 (c_X6_mindOf hC (Or.inl rfl) h1) (C_town hC (Or.inl rfl)) rfl mi_X6_mindOf mv_X6_mindOf kM_X7_91 rfl ⟨Nat.le_of_ble_eq_true rfl, Nat.le_of_ble_eq_true rfl⟩ rfl (Nat.le_of_ble_eq_true rfl) ?_
            refine g_iconst Γ (pc := 92) (v := 1) dX7_pour_92 rfl ?_
            have J_101 : ∀ (s16 : Int32), f_X7_pour_J101 x3_7 x5_8 m9 s11 s16 = some z1 → G 101 [(0, .ref (sq Y 0)), (2, .ref (sq Y (42 + 2 * j2))), (3, .int x3_7), (4, .int e4), (5, .int x5_8)] [.int s16, .int s11] m9 := by
              intro s16 hf
              unfold f_X7_pour_J101 at hf
              refine g_icmp_eq Γ (pc := 101) (tgt := 116) dX7_pour_101 rfl hf (fun hf => ?_) (fun hf => ?_)
              · refine g_sub Γ [0, 1, 2, 3, 4] rfl ?_
                exact J_116 x3_7 m9 hf
              · refine g_aload_n Γ (pc := 104) 0 dX7_pour_104 rfl rfl ?_
                refine g_get Γ (pc := 105) (v := .ref (sq Y 21)) dX7_pour_105 (C_main hC) fr_X7_21 rfl ?_
                refine g_iload Γ (pc := 108) 4 dX7_pour_108 rfl ?_
                obtain ⟨m17, h1, hf⟩ := bn1_i hf
                refine g_callVV Γ (pc := 110) (as := [.int x5_8]) (st := []) dX7_pour_110 (c_X6_flip hC (Or.inl rfl) h1) (C_town hC (Or.inl rfl)) rfl mi_X6_flip mv_X6_flip kM_X7_133 rfl ⟨Nat.le_of_ble_eq_true rfl, Nat.le_of_ble_eq_true rfl⟩ rfl (Nat.le_of_ble_eq_true rfl) ?_
                refine g_iinc Γ (pc := 113) (v := x3_7 + 1) (lv' := [(3, .int (x3_7 + 1)), (0, .ref (sq Y 0)), (2, .ref (sq Y (42 + 2 * j2))), (4, .int e4), (5, .int x5_8)]) 2 dX7_pour_113 rfl rfl (by decide) rfl ?_
                refine g_sub Γ [1, 2, 0, 3, 4] rfl ?_
                exact J_116 (x3_7 + 1) m17 hf
            refine g_icmp_ne Γ (pc := 93) (tgt := 100) dX7_pour_93 rfl hf (fun hf => ?_) (fun hf => ?_)
            · refine g_iconst Γ (pc := 100) (v := 0) dX7_pour_100 rfl ?_
              refine g_sub Γ [1, 2, 3, 4, 5] rfl ?_
              exact J_101 0 hf
            · refine g_iconst Γ (pc := 96) (v := 1) dX7_pour_96 rfl ?_
              refine g_goto Γ (pc := 97) (tgt := 101) dX7_pour_97 rfl ?_
              refine g_sub Γ [1, 2, 3, 4, 5] rfl ?_
              exact J_101 1 hf
        refine g_if_le Γ (pc := 62) (tgt := 69) dX7_pour_62 rfl hf (fun hf => ?_) (fun hf => ?_)
        · refine g_iconst Γ (pc := 69) (v := 0) dX7_pour_69 rfl ?_
          refine g_sub Γ [0, 1, 2, 3, 4] rfl ?_
          exact J_70 0 hf
        · refine g_iconst Γ (pc := 65) (v := 1) dX7_pour_65 rfl ?_
          refine g_goto Γ (pc := 66) (tgt := 70) dX7_pour_66 rfl ?_
          refine g_sub Γ [0, 1, 2, 3, 4] rfl ?_
          exact J_70 1 hf
    · refine g_ldc Γ (pc := 24) dX7_pour_24 kK_X7_218 ?_
      exact rI ret dX7_pour_26 hf
  · refine g_ldc Γ (pc := 7) dX7_pour_7 kK_X7_75 ?_
    exact rI ret dX7_pour_9 hf
def f_X7_reads_K29_70 (y3_4 : Int32) : Option (Int32) :=
  some y3_4
def f_X7_reads_K29_78  : Option (Int32) :=
  some (-1000000005)
def f_X7_reads_J72 (x3_5 : Int32) : Option (Int32 ⊕ (Int32 ⊕ Unit)) :=
  some (.inl (x3_5 + 1))
def f_X7_reads_L29 (μ : Mem) (j2 : Nat) (x3_5 : Int32) : Option (Int32 ⊕ (Int32 ⊕ Unit)) :=
  if (μ (42 + 2 * j2) 2) ≤ x3_5 then
    some (.inr (.inr ()))
  else
    bn1 (f_X4_isNumber (42 + 2 * j2) x3_5 μ) fun v6 =>
    if v6 = 0 then
      f_X7_reads_J72 x3_5
    else
      bn1 (f_X7_isNobody x3_5 μ) fun v7 =>
      if v7 = 0 then
        bn1 (ldM (μ ((42 + 2 * j2) + 1)) 24 x3_5) fun v8 =>
        bn1 (f_X6_offOf 21 x3_5 μ) fun v9 =>
        if v8 = v9 then
          f_X7_reads_J72 x3_5
        else
          some (.inr (.inl x3_5))
      else
        some (.inr (.inl x3_5))
def f_X7_reads (a0 : Int32) (μ : Mem) : Option (Int32) :=
  bn1 (f_X7_isNoSheet a0) fun v1 =>
  if v1 = 0 then
    bn1 (rdM 4 a0) fun j2 =>
    bn1 (f_X4_isMissing (42 + 2 * j2) μ) fun v3 =>
    if v3 = 0 then
      bn1 (lpF (fun v => f_X7_reads_L29 μ j2 v) 4000 0) (fun x => cs2 x (fun y => f_X7_reads_K29_70 y) (fun x0 => f_X7_reads_K29_78))
    else
      some (-1000000011)
  else
    some (-1000000001)
set_option maxRecDepth 100000 in
set_option maxHeartbeats 4000000 in
theorem c_X7_reads {Y : SYS} (hC : IsC Y) {a0 : Int32} {μ : Mem} {x : Int32} (hf : f_X7_reads a0 μ = some x) : KC Y yX7_reads cX7_reads 4 (some .int) 4 [.ref (sq Y 0), .int a0] μ (some (.int x)) μ := by
  refine KC.I RX7 [(0, .ref (sq Y 0)), (1, .int a0)] (by decide) rfl (Nat.le_of_ble_eq_true rfl) rfl (fun G Γ ret => ?_)
  unfold f_X7_reads at hf
  refine g_iload_n Γ (pc := 0) 1 dX7_reads_0 rfl rfl ?_
  obtain ⟨v1, h1, hf⟩ := bn1_i hf
  refine g_callSI Γ (pc := 1) (as := [.int a0]) (st := []) dX7_reads_1 (c_X7_isNoSheet h1) mi_X7_isNoSheet ms_X7_isNoSheet kM_X7_211 rfl ⟨Nat.le_of_ble_eq_true rfl, Nat.le_of_ble_eq_true rfl⟩ rfl (Nat.le_of_ble_eq_true rfl) ?_
  refine g_if_eq Γ (pc := 4) (tgt := 10) dX7_reads_4 rfl hf (fun hf => ?_) (fun hf => ?_)
  · refine g_aload_n Γ (pc := 10) 0 dX7_reads_10 rfl rfl ?_
    refine g_get Γ (pc := 11) (v := .ref (sq Y 41)) dX7_reads_11 (C_main hC) fr_X7_47 rfl ?_
    refine g_iload_n Γ (pc := 14) 1 dX7_reads_14 rfl rfl ?_
    refine g_aaldT Γ (pc := 15) dX7_reads_15 (C_sheets hC) hf (fun j2 hj2 hf => ?_)
    refine g_astore_n Γ (pc := 16) (lv' := [(2, .ref (sq Y (42 + 2 * j2))), (0, .ref (sq Y 0)), (1, .int a0)]) dX7_reads_16 rfl (by decide) rfl ?_
    refine g_aload_n Γ (pc := 17) 0 dX7_reads_17 rfl rfl ?_
    obtain ⟨v3, h1, hf⟩ := bn1_i hf
    refine g_callVI Γ (pc := 18) (as := []) (st := []) dX7_reads_18 (c_X4_isMissing hC (RowAt.sheet hj2) h1) (C_row hC (RowAt.sheet hj2)) rfl mi_X4_isMissing mv_X4_isMissing kM_X7_214 rfl ⟨Nat.le_of_ble_eq_true rfl, Nat.le_of_ble_eq_true rfl⟩ rfl (Nat.le_of_ble_eq_true rfl) ?_
    refine g_if_eq Γ (pc := 21) (tgt := 27) dX7_reads_21 rfl hf (fun hf => ?_) (fun hf => ?_)
    · refine g_iconst Γ (pc := 27) (v := 0) dX7_reads_27 rfl ?_
      refine g_istore_n Γ (pc := 28) (lv' := [(3, .int 0), (2, .ref (sq Y (42 + 2 * j2))), (0, .ref (sq Y 0)), (1, .int a0)]) dX7_reads_28 rfl (by decide) rfl ?_
      have K_29_70 : ∀ (y3_4 : Int32), f_X7_reads_K29_70 y3_4 = some x → G 70 [(3, .int y3_4)] [] μ := by
        intro y3_4 hf
        unfold f_X7_reads_K29_70 at hf
        refine g_iload_n Γ (pc := 70) 0 dX7_reads_70 rfl rfl ?_
        exact rIr ret dX7_reads_71 hf
      have K_29_78 : f_X7_reads_K29_78 = some x → G 78 [] [] μ := by
        intro hf
        unfold f_X7_reads_K29_78 at hf
        refine g_ldc Γ (pc := 78) dX7_reads_78 kK_X7_197 ?_
        exact rIr ret dX7_reads_80 hf
      refine g_sub Γ [2, 1, 0] rfl ?_
      refine lpF_s (P := fun (v : Int32) => G 29 [(0, .ref (sq Y 0)), (2, .ref (sq Y (42 + 2 * j2))), (3, .int v)] [] μ) hf (fun v z1 hf kI1 kX1 => ?_)
      obtain ⟨x3_5, rfl⟩ : ∃ w, w = v := ⟨v, rfl⟩
      replace hf : f_X7_reads_L29 μ j2 x3_5 = some z1 := hf
      show G 29 [(0, .ref (sq Y 0)), (2, .ref (sq Y (42 + 2 * j2))), (3, .int x3_5)] [] μ
      unfold f_X7_reads_L29 at hf
      refine g_iload_n Γ (pc := 29) 2 dX7_reads_29 rfl rfl ?_
      refine g_aload_n Γ (pc := 30) 1 dX7_reads_30 rfl rfl ?_
      refine g_get Γ (pc := 31) (v := .int (μ (42 + 2 * j2) 2)) dX7_reads_31 (C_row hC (RowAt.sheet hj2)) fr_X7_223 rfl ?_
      refine g_icmp_ge Γ (pc := 34) (tgt := 78) dX7_reads_34 rfl hf (fun hf => ?_) (fun hf => ?_)
      · refine g_sub Γ [] rfl ?_
        exact K_29_78  (kX1 (.inr ()) (Option.some.inj hf).symm)
      · refine g_aload_n Γ (pc := 37) 1 dX7_reads_37 rfl rfl ?_
        refine g_iload_n Γ (pc := 38) 2 dX7_reads_38 rfl rfl ?_
        obtain ⟨v6, h1, hf⟩ := bn1_i hf
        refine g_callVI Γ (pc := 39) (as := [.int x3_5]) (st := []) dX7_reads_39 (c_X4_isNumber hC (RowAt.sheet hj2) h1) (C_row hC (RowAt.sheet hj2)) rfl mi_X4_isNumber mv_X4_isNumber kM_X7_224 rfl ⟨Nat.le_of_ble_eq_true rfl, Nat.le_of_ble_eq_true rfl⟩ rfl (Nat.le_of_ble_eq_true rfl) ?_
        have J_72 : f_X7_reads_J72 x3_5 = some z1 → G 72 [(0, .ref (sq Y 0)), (2, .ref (sq Y (42 + 2 * j2))), (3, .int x3_5)] [] μ := by
          intro hf
          unfold f_X7_reads_J72 at hf
          refine g_iinc Γ (pc := 72) (v := x3_5 + 1) (lv' := [(3, .int (x3_5 + 1)), (0, .ref (sq Y 0)), (2, .ref (sq Y (42 + 2 * j2)))]) 2 dX7_reads_72 rfl rfl (by decide) rfl ?_
          refine g_goto Γ (pc := 75) (tgt := 29) dX7_reads_75 rfl ?_
          refine g_sub Γ [1, 2, 0] rfl ?_
          exact kI1 (x3_5 + 1) (Option.some.inj hf).symm
        refine g_if_eq Γ (pc := 42) (tgt := 72) dX7_reads_42 rfl hf (fun hf => ?_) (fun hf => ?_)
        · refine g_sub Γ [0, 1, 2] rfl ?_
          exact J_72 hf
        · refine g_aload_n Γ (pc := 45) 0 dX7_reads_45 rfl rfl ?_
          refine g_iload_n Γ (pc := 46) 2 dX7_reads_46 rfl rfl ?_
          obtain ⟨v7, h1, hf⟩ := bn1_i hf
          refine g_callVI Γ (pc := 47) (as := [.int x3_5]) (st := []) dX7_reads_47 (c_X7_isNobody hC h1) (C_main hC) rfl mi_X7_isNobody mv_X7_isNobody kM_X7_84 rfl ⟨Nat.le_of_ble_eq_true rfl, Nat.le_of_ble_eq_true rfl⟩ rfl (Nat.le_of_ble_eq_true rfl) ?_
          refine g_if_ne Γ (pc := 50) (tgt := 70) dX7_reads_50 rfl hf (fun hf => ?_) (fun hf => ?_)
          · refine g_sub Γ [2] rfl ?_
            exact K_29_70 x3_5 (kX1 (.inl x3_5) (Option.some.inj hf).symm)
          · refine g_aload_n Γ (pc := 53) 1 dX7_reads_53 rfl rfl ?_
            refine g_get Γ (pc := 54) (v := .ref (sq Y ((42 + 2 * j2) + 1))) dX7_reads_54 (C_row hC (RowAt.sheet hj2)) fr_X7_230 rfl ?_
            refine g_iload_n Γ (pc := 57) 2 dX7_reads_57 rfl rfl ?_
            refine g_iald Γ (pc := 58) dX7_reads_58 (C_row1 hC (RowAt.sheet hj2)) hf (fun v8 hf => ?_)
            refine g_aload_n Γ (pc := 59) 0 dX7_reads_59 rfl rfl ?_
            refine g_get Γ (pc := 60) (v := .ref (sq Y 21)) dX7_reads_60 (C_main hC) fr_X7_21 rfl ?_
            refine g_iload_n Γ (pc := 63) 2 dX7_reads_63 rfl rfl ?_
            obtain ⟨v9, h1, hf⟩ := bn1_i hf
            refine g_callVI Γ (pc := 64) (as := [.int x3_5]) (st := [.int v8]) dX7_reads_64 (c_X6_offOf hC (Or.inl rfl) h1) (C_town hC (Or.inl rfl)) rfl mi_X6_offOf mv_X6_offOf kM_X7_104 rfl ⟨Nat.le_of_ble_eq_true rfl, Nat.le_of_ble_eq_true rfl⟩ rfl (Nat.le_of_ble_eq_true rfl) ?_
            refine g_icmp_eq Γ (pc := 67) (tgt := 72) dX7_reads_67 rfl hf (fun hf => ?_) (fun hf => ?_)
            · refine g_sub Γ [0, 1, 2] rfl ?_
              exact J_72 hf
            · refine g_sub Γ [2] rfl ?_
              exact K_29_70 x3_5 (kX1 (.inl x3_5) (Option.some.inj hf).symm)
    · refine g_ldc Γ (pc := 24) dX7_reads_24 kK_X7_218 ?_
      exact rIr ret dX7_reads_26 hf
  · refine g_ldc Γ (pc := 7) dX7_reads_7 kK_X7_75 ?_
    exact rIr ret dX7_reads_9 hf
def f_X7_copy (a0 : Int32) (a1 : Int32) (a2 : Int32) (a3 : Int32) (a4 : Int32) (μ : Mem) : Option (Int32 × Mem) :=
  bn1 (f_X7_isNoSheet a0) fun v1 =>
  if v1 = 0 then
    bn1 (f_X7_isNoSheet a2) fun v2 =>
    if v2 = 0 then
      bn1 (rdM 4 a0) fun j3 =>
      bn1 (rdM 4 a2) fun j4 =>
      bn1 (f_X4_isMissing (42 + 2 * j3) μ) fun v5 =>
      if v5 = 0 then
        bn1 (f_X4_isMissing (42 + 2 * j4) μ) fun v6 =>
        if v6 = 0 then
          if (μ (42 + 2 * j3) 1) = (μ (42 + 2 * j4) 1) then
            bn1 (f_X4_lacks (42 + 2 * j3) a1 a4 μ) fun v7 =>
            if v7 = 0 then
              bn1 (f_X4_lacks (42 + 2 * j4) a3 a4 μ) fun v8 =>
              if v8 = 0 then
                bn1 (cpM μ ((42 + 2 * j3) + 1) 24 a1 ((42 + 2 * j4) + 1) 24 a3 a4) fun m9 =>
                some (a4, m9)
              else
                some ((-1000000013), μ)
            else
              some ((-1000000013), μ)
          else
            some ((-1000000012), μ)
        else
          some ((-1000000011), μ)
      else
        some ((-1000000011), μ)
    else
      some ((-1000000001), μ)
  else
    some ((-1000000001), μ)
set_option maxRecDepth 100000 in
set_option maxHeartbeats 4000000 in
theorem c_X7_copy {Y : SYS} (hC : IsC Y) {a0 : Int32} {a1 : Int32} {a2 : Int32} {a3 : Int32} {a4 : Int32} {μ : Mem} {x : Int32} {m : Mem} (hf : f_X7_copy a0 a1 a2 a3 a4 μ = some (x, m)) : KC Y yX7_copy cX7_copy 8 (some .int) 2 [.ref (sq Y 0), .int a0, .int a1, .int a2, .int a3, .int a4] μ (some (.int x)) m := by
  refine KC.I RX7 [(0, .ref (sq Y 0)), (1, .int a0), (2, .int a1), (3, .int a2), (4, .int a3), (5, .int a4)] (by decide) rfl (Nat.le_of_ble_eq_true rfl) rfl (fun G Γ ret => ?_)
  unfold f_X7_copy at hf
  refine g_iload_n Γ (pc := 0) 1 dX7_copy_0 rfl rfl ?_
  obtain ⟨v1, h1, hf⟩ := bn1_i hf
  refine g_callSI Γ (pc := 1) (as := [.int a0]) (st := []) dX7_copy_1 (c_X7_isNoSheet h1) mi_X7_isNoSheet ms_X7_isNoSheet kM_X7_211 rfl ⟨Nat.le_of_ble_eq_true rfl, Nat.le_of_ble_eq_true rfl⟩ rfl (Nat.le_of_ble_eq_true rfl) ?_
  refine g_if_ne Γ (pc := 4) (tgt := 14) dX7_copy_4 rfl hf (fun hf => ?_) (fun hf => ?_)
  · refine g_ldc Γ (pc := 14) dX7_copy_14 kK_X7_75 ?_
    exact rI ret dX7_copy_16 hf
  · refine g_iload_n Γ (pc := 7) 3 dX7_copy_7 rfl rfl ?_
    obtain ⟨v2, h1, hf⟩ := bn1_i hf
    refine g_callSI Γ (pc := 8) (as := [.int a2]) (st := []) dX7_copy_8 (c_X7_isNoSheet h1) mi_X7_isNoSheet ms_X7_isNoSheet kM_X7_211 rfl ⟨Nat.le_of_ble_eq_true rfl, Nat.le_of_ble_eq_true rfl⟩ rfl (Nat.le_of_ble_eq_true rfl) ?_
    refine g_if_eq Γ (pc := 11) (tgt := 17) dX7_copy_11 rfl hf (fun hf => ?_) (fun hf => ?_)
    · refine g_aload_n Γ (pc := 17) 0 dX7_copy_17 rfl rfl ?_
      refine g_get Γ (pc := 18) (v := .ref (sq Y 41)) dX7_copy_18 (C_main hC) fr_X7_47 rfl ?_
      refine g_iload_n Γ (pc := 21) 1 dX7_copy_21 rfl rfl ?_
      refine g_aaldT Γ (pc := 22) dX7_copy_22 (C_sheets hC) hf (fun j3 hj3 hf => ?_)
      refine g_astore Γ (pc := 23) (lv' := [(6, .ref (sq Y (42 + 2 * j3))), (0, .ref (sq Y 0)), (1, .int a0), (2, .int a1), (3, .int a2), (4, .int a3), (5, .int a4)]) dX7_copy_23 (by decide) rfl ?_
      refine g_aload_n Γ (pc := 25) 1 dX7_copy_25 rfl rfl ?_
      refine g_get Γ (pc := 26) (v := .ref (sq Y 41)) dX7_copy_26 (C_main hC) fr_X7_47 rfl ?_
      refine g_iload_n Γ (pc := 29) 4 dX7_copy_29 rfl rfl ?_
      refine g_aaldT Γ (pc := 30) dX7_copy_30 (C_sheets hC) hf (fun j4 hj4 hf => ?_)
      refine g_astore Γ (pc := 31) (lv' := [(7, .ref (sq Y (42 + 2 * j4))), (6, .ref (sq Y (42 + 2 * j3))), (0, .ref (sq Y 0)), (1, .int a0), (2, .int a1), (3, .int a2), (4, .int a3), (5, .int a4)]) dX7_copy_31 (by decide) rfl ?_
      refine g_aload Γ (pc := 33) 1 dX7_copy_33 rfl ?_
      obtain ⟨v5, h1, hf⟩ := bn1_i hf
      refine g_callVI Γ (pc := 35) (as := []) (st := []) dX7_copy_35 (c_X4_isMissing hC (RowAt.sheet hj3) h1) (C_row hC (RowAt.sheet hj3)) rfl mi_X4_isMissing mv_X4_isMissing kM_X7_214 rfl ⟨Nat.le_of_ble_eq_true rfl, Nat.le_of_ble_eq_true rfl⟩ rfl (Nat.le_of_ble_eq_true rfl) ?_
      refine g_if_ne Γ (pc := 38) (tgt := 49) dX7_copy_38 rfl hf (fun hf => ?_) (fun hf => ?_)
      · refine g_ldc Γ (pc := 49) dX7_copy_49 kK_X7_218 ?_
        exact rI ret dX7_copy_51 hf
      · refine g_aload Γ (pc := 41) 0 dX7_copy_41 rfl ?_
        obtain ⟨v6, h1, hf⟩ := bn1_i hf
        refine g_callVI Γ (pc := 43) (as := []) (st := []) dX7_copy_43 (c_X4_isMissing hC (RowAt.sheet hj4) h1) (C_row hC (RowAt.sheet hj4)) rfl mi_X4_isMissing mv_X4_isMissing kM_X7_214 rfl ⟨Nat.le_of_ble_eq_true rfl, Nat.le_of_ble_eq_true rfl⟩ rfl (Nat.le_of_ble_eq_true rfl) ?_
        refine g_if_eq Γ (pc := 46) (tgt := 52) dX7_copy_46 rfl hf (fun hf => ?_) (fun hf => ?_)
        · refine g_aload Γ (pc := 52) 1 dX7_copy_52 rfl ?_
          refine g_get Γ (pc := 54) (v := .int (μ (42 + 2 * j3) 1)) dX7_copy_54 (C_row hC (RowAt.sheet hj3)) fr_X7_277 rfl ?_
          refine g_aload Γ (pc := 57) 0 dX7_copy_57 rfl ?_
          refine g_get Γ (pc := 59) (v := .int (μ (42 + 2 * j4) 1)) dX7_copy_59 (C_row hC (RowAt.sheet hj4)) fr_X7_277 rfl ?_
          refine g_icmp_eq Γ (pc := 62) (tgt := 68) dX7_copy_62 rfl hf (fun hf => ?_) (fun hf => ?_)
          · refine g_aload Γ (pc := 68) 1 dX7_copy_68 rfl ?_
            refine g_iload_n Γ (pc := 70) 4 dX7_copy_70 rfl rfl ?_
            refine g_iload Γ (pc := 71) 7 dX7_copy_71 rfl ?_
            obtain ⟨v7, h1, hf⟩ := bn1_i hf
            refine g_callVI Γ (pc := 73) (as := [.int a1, .int a4]) (st := []) dX7_copy_73 (c_X4_lacks hC (RowAt.sheet hj3) h1) (C_row hC (RowAt.sheet hj3)) rfl mi_X4_lacks mv_X4_lacks kM_X7_282 rfl ⟨Nat.le_of_ble_eq_true rfl, Nat.le_of_ble_eq_true rfl⟩ rfl (Nat.le_of_ble_eq_true rfl) ?_
            refine g_if_ne Γ (pc := 76) (tgt := 91) dX7_copy_76 rfl hf (fun hf => ?_) (fun hf => ?_)
            · refine g_ldcw Γ (pc := 91) dX7_copy_91 kK_X7_276 ?_
              exact rI ret dX7_copy_94 hf
            · refine g_aload Γ (pc := 79) 0 dX7_copy_79 rfl ?_
              refine g_iload Γ (pc := 81) 6 dX7_copy_81 rfl ?_
              refine g_iload Γ (pc := 83) 7 dX7_copy_83 rfl ?_
              obtain ⟨v8, h1, hf⟩ := bn1_i hf
              refine g_callVI Γ (pc := 85) (as := [.int a3, .int a4]) (st := []) dX7_copy_85 (c_X4_lacks hC (RowAt.sheet hj4) h1) (C_row hC (RowAt.sheet hj4)) rfl mi_X4_lacks mv_X4_lacks kM_X7_282 rfl ⟨Nat.le_of_ble_eq_true rfl, Nat.le_of_ble_eq_true rfl⟩ rfl (Nat.le_of_ble_eq_true rfl) ?_
              refine g_if_eq Γ (pc := 88) (tgt := 95) dX7_copy_88 rfl hf (fun hf => ?_) (fun hf => ?_)
              · refine g_aload Γ (pc := 95) 1 dX7_copy_95 rfl ?_
                refine g_get Γ (pc := 97) (v := .ref (sq Y ((42 + 2 * j3) + 1))) dX7_copy_97 (C_row hC (RowAt.sheet hj3)) fr_X7_230 rfl ?_
                refine g_iload_n Γ (pc := 100) 4 dX7_copy_100 rfl rfl ?_
                refine g_aload Γ (pc := 101) 0 dX7_copy_101 rfl ?_
                refine g_get Γ (pc := 103) (v := .ref (sq Y ((42 + 2 * j4) + 1))) dX7_copy_103 (C_row hC (RowAt.sheet hj4)) fr_X7_230 rfl ?_
                refine g_iload Γ (pc := 106) 6 dX7_copy_106 rfl ?_
                refine g_iload Γ (pc := 108) 7 dX7_copy_108 rfl ?_
                refine g_copy Γ (pc := 110) dX7_copy_110 (C_row1 hC (RowAt.sheet hj3)) (C_row1 hC (RowAt.sheet hj4)) kM_X7_285 kNat_copy kS_copy kI_J10 (Nat.le_of_ble_eq_true rfl) (Nat.le_of_ble_eq_true rfl) hf (fun m9 hf => ?_)
                refine g_iload Γ (pc := 113) 7 dX7_copy_113 rfl ?_
                exact rI ret dX7_copy_115 hf
              · refine g_ldcw Γ (pc := 91) dX7_copy_91 kK_X7_276 ?_
                exact rI ret dX7_copy_94 hf
          · refine g_ldc Γ (pc := 65) dX7_copy_65 kK_X7_123 ?_
            exact rI ret dX7_copy_67 hf
        · refine g_ldc Γ (pc := 49) dX7_copy_49 kK_X7_218 ?_
          exact rI ret dX7_copy_51 hf
    · refine g_ldc Γ (pc := 14) dX7_copy_14 kK_X7_75 ?_
      exact rI ret dX7_copy_16 hf
def f_X7_isNoSlot (a0 : Int32) : Option (Int32) :=
  bn1 (f_X7_outside a0 0 4) fun v1 =>
  zM v1
set_option maxRecDepth 100000 in
set_option maxHeartbeats 4000000 in
theorem c_X7_isNoSlot {Y : SYS} {a0 : Int32} {μ : Mem} {x : Int32} (hf : f_X7_isNoSlot a0 = some x) : KC Y yX7_isNoSlot cX7_isNoSlot 1 (some .boolean) 1 [.int a0] μ (some (.int x)) μ := by
  refine KC.Z RX7 [(0, .int a0)] (by decide) rfl (Nat.le_of_ble_eq_true rfl) rfl (fun G Γ ret => ?_)
  unfold f_X7_isNoSlot at hf
  refine g_iload_n Γ (pc := 0) 0 dX7_isNoSlot_0 rfl rfl ?_
  refine g_iconst Γ (pc := 1) (v := 0) dX7_isNoSlot_1 rfl ?_
  refine g_iconst Γ (pc := 2) (v := 4) dX7_isNoSlot_2 rfl ?_
  obtain ⟨v1, h1, hf⟩ := bn1_i hf
  refine g_callSI Γ (pc := 3) (as := [.int a0, .int 0, .int 4]) (st := []) dX7_isNoSlot_3 (c_X7_outside h1) mi_X7_outside ms_X7_outside kM_X7_71 rfl ⟨Nat.le_of_ble_eq_true rfl, Nat.le_of_ble_eq_true rfl⟩ rfl (Nat.le_of_ble_eq_true rfl) ?_
  exact rZr ret dX7_isNoSlot_6 hf
def f_X7_lay_J67 (a0 : Int32) (a1 : Int32) (a2 : Int32) (μ : Mem) : Option (Int32 × Mem) :=
  bn1 (rdM 5 a0) fun j3 =>
  nm (mset μ (51 + 3 * j3) 1 a1) fun m4 =>
  if a1 = 1 then
    bn1 (ldM (m4 22) 10 a2) fun v8 =>
    nm (mset m4 (51 + 3 * j3) 2 v8) fun m9 =>
    bn1 (ldM (m9 23) 10 a2) fun v10 =>
    nm (mset m9 (51 + 3 * j3) 3 v10) fun m11 =>
    some ((μ (51 + 3 * j3) 1), m11)
  else
    if a1 = 2 then
      bn1 (rdM 4 a2) fun j6 =>
      bn1 (f_X4_become ((51 + 3 * j3) + 1) (42 + 2 * j6) m4) fun m7 =>
      some ((μ (51 + 3 * j3) 1), m7)
    else
      if a1 = 3 then
        nm (mset m4 (51 + 3 * j3) 4 a2) fun m5 =>
        some ((μ (51 + 3 * j3) 1), m5)
      else
        some ((μ (51 + 3 * j3) 1), m4)
def f_X7_lay_J47 (a0 : Int32) (a1 : Int32) (a2 : Int32) (μ : Mem) : Option (Int32 × Mem) :=
  if a1 = 2 then
    bn1 (rdM 4 a2) fun j12 =>
    bn1 (f_X4_isMissing (42 + 2 * j12) μ) fun v13 =>
    if v13 = 0 then
      f_X7_lay_J67 a0 a1 a2 μ
    else
      some ((-1000000011), μ)
  else
    f_X7_lay_J67 a0 a1 a2 μ
def f_X7_lay_J32 (a0 : Int32) (a1 : Int32) (a2 : Int32) (μ : Mem) : Option (Int32 × Mem) :=
  if a1 = 2 then
    bn1 (f_X7_isNoSheet a2) fun v14 =>
    if v14 = 0 then
      f_X7_lay_J47 a0 a1 a2 μ
    else
      some ((-1000000001), μ)
  else
    f_X7_lay_J47 a0 a1 a2 μ
def f_X7_lay (a0 : Int32) (a1 : Int32) (a2 : Int32) (μ : Mem) : Option (Int32 × Mem) :=
  bn1 (f_X7_isNoSlot a0) fun v1 =>
  if v1 = 0 then
    bn1 (f_X7_outside a1 0 3) fun v2 =>
    if v2 = 0 then
      if a1 = 1 then
        bn1 (f_X7_isNobody a2 μ) fun v15 =>
        if v15 = 0 then
          f_X7_lay_J32 a0 a1 a2 μ
        else
          some ((-1000000001), μ)
      else
        f_X7_lay_J32 a0 a1 a2 μ
    else
      some ((-1000000001), μ)
  else
    some ((-1000000001), μ)
set_option maxRecDepth 100000 in
set_option maxHeartbeats 4000000 in
theorem c_X7_lay {Y : SYS} (hC : IsC Y) {a0 : Int32} {a1 : Int32} {a2 : Int32} {μ : Mem} {x : Int32} {m : Mem} (hf : f_X7_lay a0 a1 a2 μ = some (x, m)) : KC Y yX7_lay cX7_lay 6 (some .int) 2 [.ref (sq Y 0), .int a0, .int a1, .int a2] μ (some (.int x)) m := by
  refine KC.I RX7 [(0, .ref (sq Y 0)), (1, .int a0), (2, .int a1), (3, .int a2)] (by decide) rfl (Nat.le_of_ble_eq_true rfl) rfl (fun G Γ ret => ?_)
  unfold f_X7_lay at hf
  refine g_iload_n Γ (pc := 0) 1 dX7_lay_0 rfl rfl ?_
  obtain ⟨v1, h1, hf⟩ := bn1_i hf
  refine g_callSI Γ (pc := 1) (as := [.int a0]) (st := []) dX7_lay_1 (c_X7_isNoSlot h1) mi_X7_isNoSlot ms_X7_isNoSlot kM_X7_291 rfl ⟨Nat.le_of_ble_eq_true rfl, Nat.le_of_ble_eq_true rfl⟩ rfl (Nat.le_of_ble_eq_true rfl) ?_
  refine g_if_ne Γ (pc := 4) (tgt := 16) dX7_lay_4 rfl hf (fun hf => ?_) (fun hf => ?_)
  · refine g_ldc Γ (pc := 16) dX7_lay_16 kK_X7_75 ?_
    exact rI ret dX7_lay_18 hf
  · refine g_iload_n Γ (pc := 7) 2 dX7_lay_7 rfl rfl ?_
    refine g_iconst Γ (pc := 8) (v := 0) dX7_lay_8 rfl ?_
    refine g_iconst Γ (pc := 9) (v := 3) dX7_lay_9 rfl ?_
    obtain ⟨v2, h1, hf⟩ := bn1_i hf
    refine g_callSI Γ (pc := 10) (as := [.int a1, .int 0, .int 3]) (st := []) dX7_lay_10 (c_X7_outside h1) mi_X7_outside ms_X7_outside kM_X7_71 rfl ⟨Nat.le_of_ble_eq_true rfl, Nat.le_of_ble_eq_true rfl⟩ rfl (Nat.le_of_ble_eq_true rfl) ?_
    refine g_if_eq Γ (pc := 13) (tgt := 19) dX7_lay_13 rfl hf (fun hf => ?_) (fun hf => ?_)
    · refine g_iload_n Γ (pc := 19) 2 dX7_lay_19 rfl rfl ?_
      refine g_iconst Γ (pc := 20) (v := 1) dX7_lay_20 rfl ?_
      have J_32 : f_X7_lay_J32 a0 a1 a2 μ = some (x, m) → G 32 [(0, .ref (sq Y 0)), (1, .int a0), (2, .int a1), (3, .int a2)] [] μ := by
        intro hf
        unfold f_X7_lay_J32 at hf
        refine g_iload_n Γ (pc := 32) 2 dX7_lay_32 rfl rfl ?_
        refine g_iconst Γ (pc := 33) (v := 2) dX7_lay_33 rfl ?_
        have J_47 : f_X7_lay_J47 a0 a1 a2 μ = some (x, m) → G 47 [(0, .ref (sq Y 0)), (1, .int a0), (2, .int a1), (3, .int a2)] [] μ := by
          intro hf
          unfold f_X7_lay_J47 at hf
          refine g_iload_n Γ (pc := 47) 2 dX7_lay_47 rfl rfl ?_
          refine g_iconst Γ (pc := 48) (v := 2) dX7_lay_48 rfl ?_
          have J_67 : f_X7_lay_J67 a0 a1 a2 μ = some (x, m) → G 67 [(0, .ref (sq Y 0)), (1, .int a0), (2, .int a1), (3, .int a2)] [] μ := by
            intro hf
            unfold f_X7_lay_J67 at hf
            refine g_aload_n Γ (pc := 67) 0 dX7_lay_67 rfl rfl ?_
            refine g_get Γ (pc := 68) (v := .ref (sq Y 50)) dX7_lay_68 (C_main hC) fr_X7_53 rfl ?_
            refine g_iload_n Γ (pc := 71) 1 dX7_lay_71 rfl rfl ?_
            refine g_aaldT Γ (pc := 72) dX7_lay_72 (C_slots hC) hf (fun j3 hj3 hf => ?_)
            refine g_astore Γ (pc := 73) (lv' := [(4, .ref (sq Y (51 + 3 * j3))), (0, .ref (sq Y 0)), (1, .int a0), (2, .int a1), (3, .int a2)]) dX7_lay_73 (by decide) rfl ?_
            refine g_aload Γ (pc := 75) 0 dX7_lay_75 rfl ?_
            refine g_get Γ (pc := 77) (v := .int (μ (51 + 3 * j3) 1)) dX7_lay_77 (C_slot hC (SlotAt.slot hj3)) fr_X7_294 rfl ?_
            refine g_istore Γ (pc := 80) (lv' := [(5, .int (μ (51 + 3 * j3) 1)), (4, .ref (sq Y (51 + 3 * j3))), (0, .ref (sq Y 0)), (1, .int a0), (2, .int a1), (3, .int a2)]) dX7_lay_80 (by decide) rfl ?_
            refine g_aload Γ (pc := 82) 1 dX7_lay_82 rfl ?_
            refine g_iload_n Γ (pc := 84) 4 dX7_lay_84 rfl rfl ?_
            refine g_put Γ (pc := 85) dX7_lay_85 (C_slot hC (SlotAt.slot hj3)) fw_X7_294 (Nat.le_of_ble_eq_true rfl) rfl ?_
            refine g_nmm hf (fun m4 hf => ?_)
            refine g_iload_n Γ (pc := 88) 4 dX7_lay_88 rfl rfl ?_
            refine g_iconst Γ (pc := 89) (v := 1) dX7_lay_89 rfl ?_
            refine g_icmp_ne Γ (pc := 90) (tgt := 124) dX7_lay_90 rfl hf (fun hf => ?_) (fun hf => ?_)
            · refine g_iload_n Γ (pc := 124) 4 dX7_lay_124 rfl rfl ?_
              refine g_iconst Γ (pc := 125) (v := 2) dX7_lay_125 rfl ?_
              refine g_icmp_ne Γ (pc := 126) (tgt := 146) dX7_lay_126 rfl hf (fun hf => ?_) (fun hf => ?_)
              · refine g_iload_n Γ (pc := 146) 4 dX7_lay_146 rfl rfl ?_
                refine g_iconst Γ (pc := 147) (v := 3) dX7_lay_147 rfl ?_
                refine g_icmp_ne Γ (pc := 148) (tgt := 157) dX7_lay_148 rfl hf (fun hf => ?_) (fun hf => ?_)
                · refine g_iload Γ (pc := 157) 0 dX7_lay_157 rfl ?_
                  exact rI ret dX7_lay_159 hf
                · refine g_aload Γ (pc := 151) 1 dX7_lay_151 rfl ?_
                  refine g_iload_n Γ (pc := 153) 5 dX7_lay_153 rfl rfl ?_
                  refine g_put Γ (pc := 154) dX7_lay_154 (C_slot hC (SlotAt.slot hj3)) fw_X7_308 (Nat.le_of_ble_eq_true rfl) rfl ?_
                  refine g_nmm hf (fun m5 hf => ?_)
                  refine g_iload Γ (pc := 157) 0 dX7_lay_157 rfl ?_
                  exact rI ret dX7_lay_159 hf
              · refine g_aload Γ (pc := 129) 1 dX7_lay_129 rfl ?_
                refine g_get Γ (pc := 131) (v := .ref (sq Y ((51 + 3 * j3) + 1))) dX7_lay_131 (C_slot hC (SlotAt.slot hj3)) fr_X7_301 rfl ?_
                refine g_aload_n Γ (pc := 134) 2 dX7_lay_134 rfl rfl ?_
                refine g_get Γ (pc := 135) (v := .ref (sq Y 41)) dX7_lay_135 (C_main hC) fr_X7_47 rfl ?_
                refine g_iload_n Γ (pc := 138) 5 dX7_lay_138 rfl rfl ?_
                refine g_aaldT Γ (pc := 139) dX7_lay_139 (C_sheets hC) hf (fun j6 hj6 hf => ?_)
                obtain ⟨m7, h1, hf⟩ := bn1_i hf
                refine g_callVV Γ (pc := 140) (as := [.ref (sq Y (42 + 2 * j6))]) (st := []) dX7_lay_140 (c_X4_become hC (SlotAt.row (SlotAt.slot hj3)) (RowAt.sheet hj6) h1) (C_row hC (SlotAt.row (SlotAt.slot hj3))) rfl mi_X4_become mv_X4_become kM_X7_305 rfl ⟨Nat.le_of_ble_eq_true rfl, Nat.le_of_ble_eq_true rfl⟩ rfl (Nat.le_of_ble_eq_true rfl) ?_
                refine g_goto Γ (pc := 143) (tgt := 157) dX7_lay_143 rfl ?_
                refine g_iload Γ (pc := 157) 0 dX7_lay_157 rfl ?_
                exact rI ret dX7_lay_159 hf
            · refine g_aload Γ (pc := 93) 1 dX7_lay_93 rfl ?_
              refine g_aload_n Γ (pc := 95) 2 dX7_lay_95 rfl rfl ?_
              refine g_get Γ (pc := 96) (v := .ref (sq Y 21)) dX7_lay_96 (C_main hC) fr_X7_21 rfl ?_
              refine g_get Γ (pc := 99) (v := .ref (sq Y 22)) dX7_lay_99 (C_town hC (Or.inl rfl)) fr_X7_88 rfl ?_
              refine g_iload_n Γ (pc := 102) 5 dX7_lay_102 rfl rfl ?_
              refine g_iald Γ (pc := 103) dX7_lay_103 (C_town1 hC (Or.inl rfl)) hf (fun v8 hf => ?_)
              refine g_put Γ (pc := 104) dX7_lay_104 (C_slot hC (SlotAt.slot hj3)) fw_X7_297 (Nat.le_of_ble_eq_true rfl) rfl ?_
              refine g_nmm hf (fun m9 hf => ?_)
              refine g_aload Γ (pc := 107) 1 dX7_lay_107 rfl ?_
              refine g_aload_n Γ (pc := 109) 2 dX7_lay_109 rfl rfl ?_
              refine g_get Γ (pc := 110) (v := .ref (sq Y 21)) dX7_lay_110 (C_main hC) fr_X7_21 rfl ?_
              refine g_get Γ (pc := 113) (v := .ref (sq Y 23)) dX7_lay_113 (C_town hC (Or.inl rfl)) fr_X7_95 rfl ?_
              refine g_iload_n Γ (pc := 116) 5 dX7_lay_116 rfl rfl ?_
              refine g_iald Γ (pc := 117) dX7_lay_117 (C_town2 hC (Or.inl rfl)) hf (fun v10 hf => ?_)
              refine g_put Γ (pc := 118) dX7_lay_118 (C_slot hC (SlotAt.slot hj3)) fw_X7_299 (Nat.le_of_ble_eq_true rfl) rfl ?_
              refine g_nmm hf (fun m11 hf => ?_)
              refine g_goto Γ (pc := 121) (tgt := 157) dX7_lay_121 rfl ?_
              refine g_iload Γ (pc := 157) 0 dX7_lay_157 rfl ?_
              exact rI ret dX7_lay_159 hf
          refine g_icmp_ne Γ (pc := 49) (tgt := 67) dX7_lay_49 rfl hf (fun hf => ?_) (fun hf => ?_)
          · refine g_sub Γ [0, 1, 2, 3] rfl ?_
            exact J_67 hf
          · refine g_aload_n Γ (pc := 52) 0 dX7_lay_52 rfl rfl ?_
            refine g_get Γ (pc := 53) (v := .ref (sq Y 41)) dX7_lay_53 (C_main hC) fr_X7_47 rfl ?_
            refine g_iload_n Γ (pc := 56) 3 dX7_lay_56 rfl rfl ?_
            refine g_aaldT Γ (pc := 57) dX7_lay_57 (C_sheets hC) hf (fun j12 hj12 hf => ?_)
            obtain ⟨v13, h1, hf⟩ := bn1_i hf
            refine g_callVI Γ (pc := 58) (as := []) (st := []) dX7_lay_58 (c_X4_isMissing hC (RowAt.sheet hj12) h1) (C_row hC (RowAt.sheet hj12)) rfl mi_X4_isMissing mv_X4_isMissing kM_X7_214 rfl ⟨Nat.le_of_ble_eq_true rfl, Nat.le_of_ble_eq_true rfl⟩ rfl (Nat.le_of_ble_eq_true rfl) ?_
            refine g_if_eq Γ (pc := 61) (tgt := 67) dX7_lay_61 rfl hf (fun hf => ?_) (fun hf => ?_)
            · refine g_sub Γ [0, 1, 2, 3] rfl ?_
              exact J_67 hf
            · refine g_ldc Γ (pc := 64) dX7_lay_64 kK_X7_218 ?_
              exact rI ret dX7_lay_66 hf
        refine g_icmp_ne Γ (pc := 34) (tgt := 47) dX7_lay_34 rfl hf (fun hf => ?_) (fun hf => ?_)
        · refine g_sub Γ [0, 1, 2, 3] rfl ?_
          exact J_47 hf
        · refine g_iload_n Γ (pc := 37) 3 dX7_lay_37 rfl rfl ?_
          obtain ⟨v14, h1, hf⟩ := bn1_i hf
          refine g_callSI Γ (pc := 38) (as := [.int a2]) (st := []) dX7_lay_38 (c_X7_isNoSheet h1) mi_X7_isNoSheet ms_X7_isNoSheet kM_X7_211 rfl ⟨Nat.le_of_ble_eq_true rfl, Nat.le_of_ble_eq_true rfl⟩ rfl (Nat.le_of_ble_eq_true rfl) ?_
          refine g_if_eq Γ (pc := 41) (tgt := 47) dX7_lay_41 rfl hf (fun hf => ?_) (fun hf => ?_)
          · refine g_sub Γ [0, 1, 2, 3] rfl ?_
            exact J_47 hf
          · refine g_ldc Γ (pc := 44) dX7_lay_44 kK_X7_75 ?_
            exact rI ret dX7_lay_46 hf
      refine g_icmp_ne Γ (pc := 21) (tgt := 32) dX7_lay_21 rfl hf (fun hf => ?_) (fun hf => ?_)
      · refine g_sub Γ [0, 1, 2, 3] rfl ?_
        exact J_32 hf
      · refine g_aload_n Γ (pc := 24) 0 dX7_lay_24 rfl rfl ?_
        refine g_iload_n Γ (pc := 25) 3 dX7_lay_25 rfl rfl ?_
        obtain ⟨v15, h1, hf⟩ := bn1_i hf
        refine g_callVI Γ (pc := 26) (as := [.int a2]) (st := []) dX7_lay_26 (c_X7_isNobody hC h1) (C_main hC) rfl mi_X7_isNobody mv_X7_isNobody kM_X7_84 rfl ⟨Nat.le_of_ble_eq_true rfl, Nat.le_of_ble_eq_true rfl⟩ rfl (Nat.le_of_ble_eq_true rfl) ?_
        refine g_if_ne Γ (pc := 29) (tgt := 44) dX7_lay_29 rfl hf (fun hf => ?_) (fun hf => ?_)
        · refine g_ldc Γ (pc := 44) dX7_lay_44 kK_X7_75 ?_
          exact rI ret dX7_lay_46 hf
        · refine g_sub Γ [0, 1, 2, 3] rfl ?_
          exact J_32 hf
    · refine g_ldc Γ (pc := 16) dX7_lay_16 kK_X7_75 ?_
      exact rI ret dX7_lay_18 hf
def f_X7_ask (a0 : Int32) (a1 : Int32) (μ : Mem) : Option (Int32) :=
  bn1 (f_X7_isNoSlot a0) fun v1 =>
  if v1 = 0 then
    bn1 (f_X7_outside a1 0 5) fun v2 =>
    if v2 = 0 then
      bn1 (rdM 5 a0) fun j3 =>
      bn1 (f_X5_isNot (51 + 3 * j3) 1 μ) fun v4 =>
      if v4 = 0 then
        bn1 (rdM 5 a0) fun j5 =>
        bn1 (f_X1_isOf (μ (51 + 3 * j5) 2) a1 μ) fun v6 =>
        if v6 = 0 then
          some (-1000000012)
        else
          bn1 (f_X1_worth (μ (51 + 3 * j5) 2) (μ (51 + 3 * j5) 3)) fun v7 =>
          some v7
      else
        some v4
    else
      some (-1000000001)
  else
    some (-1000000001)
set_option maxRecDepth 100000 in
set_option maxHeartbeats 4000000 in
theorem c_X7_ask {Y : SYS} (hC : IsC Y) (hY : HasX Y) {a0 : Int32} {a1 : Int32} {μ : Mem} {x : Int32} (hf : f_X7_ask a0 a1 μ = some x) : KC Y yX7_ask cX7_ask 5 (some .int) 2 [.ref (sq Y 0), .int a0, .int a1] μ (some (.int x)) μ := by
  refine KC.I RX7 [(0, .ref (sq Y 0)), (1, .int a0), (2, .int a1)] (by decide) rfl (Nat.le_of_ble_eq_true rfl) rfl (fun G Γ ret => ?_)
  unfold f_X7_ask at hf
  refine g_iload_n Γ (pc := 0) 1 dX7_ask_0 rfl rfl ?_
  obtain ⟨v1, h1, hf⟩ := bn1_i hf
  refine g_callSI Γ (pc := 1) (as := [.int a0]) (st := []) dX7_ask_1 (c_X7_isNoSlot h1) mi_X7_isNoSlot ms_X7_isNoSlot kM_X7_291 rfl ⟨Nat.le_of_ble_eq_true rfl, Nat.le_of_ble_eq_true rfl⟩ rfl (Nat.le_of_ble_eq_true rfl) ?_
  refine g_if_ne Γ (pc := 4) (tgt := 16) dX7_ask_4 rfl hf (fun hf => ?_) (fun hf => ?_)
  · refine g_ldc Γ (pc := 16) dX7_ask_16 kK_X7_75 ?_
    exact rIr ret dX7_ask_18 hf
  · refine g_iload_n Γ (pc := 7) 2 dX7_ask_7 rfl rfl ?_
    refine g_iconst Γ (pc := 8) (v := 0) dX7_ask_8 rfl ?_
    refine g_iconst Γ (pc := 9) (v := 5) dX7_ask_9 rfl ?_
    obtain ⟨v2, h1, hf⟩ := bn1_i hf
    refine g_callSI Γ (pc := 10) (as := [.int a1, .int 0, .int 5]) (st := []) dX7_ask_10 (c_X7_outside h1) mi_X7_outside ms_X7_outside kM_X7_71 rfl ⟨Nat.le_of_ble_eq_true rfl, Nat.le_of_ble_eq_true rfl⟩ rfl (Nat.le_of_ble_eq_true rfl) ?_
    refine g_if_eq Γ (pc := 13) (tgt := 19) dX7_ask_13 rfl hf (fun hf => ?_) (fun hf => ?_)
    · refine g_aload_n Γ (pc := 19) 0 dX7_ask_19 rfl rfl ?_
      refine g_get Γ (pc := 20) (v := .ref (sq Y 50)) dX7_ask_20 (C_main hC) fr_X7_53 rfl ?_
      refine g_iload_n Γ (pc := 23) 1 dX7_ask_23 rfl rfl ?_
      refine g_aaldT Γ (pc := 24) dX7_ask_24 (C_slots hC) hf (fun j3 hj3 hf => ?_)
      refine g_iconst Γ (pc := 25) (v := 1) dX7_ask_25 rfl ?_
      obtain ⟨v4, h1, hf⟩ := bn1_i hf
      refine g_callVI Γ (pc := 26) (as := [.int 1]) (st := []) dX7_ask_26 (c_X5_isNot hC (SlotAt.slot hj3) h1) (C_slot hC (SlotAt.slot hj3)) rfl mi_X5_isNot mv_X5_isNot kM_X7_311 rfl ⟨Nat.le_of_ble_eq_true rfl, Nat.le_of_ble_eq_true rfl⟩ rfl (Nat.le_of_ble_eq_true rfl) ?_
      refine g_istore_n Γ (pc := 29) (lv' := [(3, .int v4), (0, .ref (sq Y 0)), (1, .int a0), (2, .int a1)]) dX7_ask_29 rfl (by decide) rfl ?_
      refine g_iload_n Γ (pc := 30) 0 dX7_ask_30 rfl rfl ?_
      refine g_if_eq Γ (pc := 31) (tgt := 36) dX7_ask_31 rfl hf (fun hf => ?_) (fun hf => ?_)
      · refine g_aload_n Γ (pc := 36) 1 dX7_ask_36 rfl rfl ?_
        refine g_get Γ (pc := 37) (v := .ref (sq Y 50)) dX7_ask_37 (C_main hC) fr_X7_53 rfl ?_
        refine g_iload_n Γ (pc := 40) 2 dX7_ask_40 rfl rfl ?_
        refine g_aaldT Γ (pc := 41) dX7_ask_41 (C_slots hC) hf (fun j5 hj5 hf => ?_)
        refine g_astore Γ (pc := 42) (lv' := [(4, .ref (sq Y (51 + 3 * j5))), (3, .int v4), (0, .ref (sq Y 0)), (1, .int a0), (2, .int a1)]) dX7_ask_42 (by decide) rfl ?_
        refine g_aload Γ (pc := 44) 0 dX7_ask_44 rfl ?_
        refine g_get Γ (pc := 46) (v := .int (μ (51 + 3 * j5) 2)) dX7_ask_46 (C_slot hC (SlotAt.slot hj5)) fr_X7_297 rfl ?_
        refine g_iload_n Γ (pc := 49) 4 dX7_ask_49 rfl rfl ?_
        obtain ⟨v6, h1, hf⟩ := bn1_i hf
        refine g_callSI Γ (pc := 50) (as := [.int (μ (51 + 3 * j5) 2), .int a1]) (st := []) dX7_ask_50 (c_X1_isOf hC hY h1) mi_X1_isOf ms_X1_isOf kM_X7_119 rfl ⟨Nat.le_of_ble_eq_true rfl, Nat.le_of_ble_eq_true rfl⟩ rfl (Nat.le_of_ble_eq_true rfl) ?_
        refine g_if_eq Γ (pc := 53) (tgt := 72) dX7_ask_53 rfl hf (fun hf => ?_) (fun hf => ?_)
        · refine g_ldc Γ (pc := 72) dX7_ask_72 kK_X7_123 ?_
          exact rIr ret dX7_ask_74 hf
        · refine g_aload Γ (pc := 56) 0 dX7_ask_56 rfl ?_
          refine g_get Γ (pc := 58) (v := .int (μ (51 + 3 * j5) 2)) dX7_ask_58 (C_slot hC (SlotAt.slot hj5)) fr_X7_297 rfl ?_
          refine g_aload Γ (pc := 61) 0 dX7_ask_61 rfl ?_
          refine g_get Γ (pc := 63) (v := .int (μ (51 + 3 * j5) 3)) dX7_ask_63 (C_slot hC (SlotAt.slot hj5)) fr_X7_299 rfl ?_
          obtain ⟨v7, h1, hf⟩ := bn1_i hf
          refine g_callSI Γ (pc := 66) (as := [.int (μ (51 + 3 * j5) 2), .int (μ (51 + 3 * j5) 3)]) (st := []) dX7_ask_66 (c_X1_worth h1) mi_X1_worth ms_X1_worth kM_X7_113 rfl ⟨Nat.le_of_ble_eq_true rfl, Nat.le_of_ble_eq_true rfl⟩ rfl (Nat.le_of_ble_eq_true rfl) ?_
          refine g_goto Γ (pc := 69) (tgt := 74) dX7_ask_69 rfl ?_
          exact rIr ret dX7_ask_74 hf
      · refine g_iload_n Γ (pc := 34) 0 dX7_ask_34 rfl rfl ?_
        exact rIr ret dX7_ask_35 hf
    · refine g_ldc Γ (pc := 16) dX7_ask_16 kK_X7_75 ?_
      exact rIr ret dX7_ask_18 hf
def f_X7_item (a0 : Int32) (a1 : Int32) (μ : Mem) : Option (Int32) :=
  bn1 (f_X7_isNoSlot a0) fun v1 =>
  if v1 = 0 then
    bn1 (rdM 5 a0) fun j2 =>
    bn1 (f_X5_isNot (51 + 3 * j2) 2 μ) fun v3 =>
    if v3 = 0 then
      bn1 (rdM 5 a0) fun j4 =>
      bn1 (f_X4_hasNo ((51 + 3 * j4) + 1) a1 μ) fun v5 =>
      if v5 = 0 then
        bn1 (f_X4_isNumber ((51 + 3 * j4) + 1) a1 μ) fun v6 =>
        if v6 = 0 then
          some (-1000000012)
        else
          bn1 (ldM (μ (((51 + 3 * j4) + 1) + 1)) 24 a1) fun v7 =>
          some v7
      else
        some (-1000000013)
    else
      some v3
  else
    some (-1000000001)
set_option maxRecDepth 100000 in
set_option maxHeartbeats 4000000 in
theorem c_X7_item {Y : SYS} (hC : IsC Y) {a0 : Int32} {a1 : Int32} {μ : Mem} {x : Int32} (hf : f_X7_item a0 a1 μ = some x) : KC Y yX7_item cX7_item 5 (some .int) 2 [.ref (sq Y 0), .int a0, .int a1] μ (some (.int x)) μ := by
  refine KC.I RX7 [(0, .ref (sq Y 0)), (1, .int a0), (2, .int a1)] (by decide) rfl (Nat.le_of_ble_eq_true rfl) rfl (fun G Γ ret => ?_)
  unfold f_X7_item at hf
  refine g_iload_n Γ (pc := 0) 1 dX7_item_0 rfl rfl ?_
  obtain ⟨v1, h1, hf⟩ := bn1_i hf
  refine g_callSI Γ (pc := 1) (as := [.int a0]) (st := []) dX7_item_1 (c_X7_isNoSlot h1) mi_X7_isNoSlot ms_X7_isNoSlot kM_X7_291 rfl ⟨Nat.le_of_ble_eq_true rfl, Nat.le_of_ble_eq_true rfl⟩ rfl (Nat.le_of_ble_eq_true rfl) ?_
  refine g_if_eq Γ (pc := 4) (tgt := 10) dX7_item_4 rfl hf (fun hf => ?_) (fun hf => ?_)
  · refine g_aload_n Γ (pc := 10) 0 dX7_item_10 rfl rfl ?_
    refine g_get Γ (pc := 11) (v := .ref (sq Y 50)) dX7_item_11 (C_main hC) fr_X7_53 rfl ?_
    refine g_iload_n Γ (pc := 14) 1 dX7_item_14 rfl rfl ?_
    refine g_aaldT Γ (pc := 15) dX7_item_15 (C_slots hC) hf (fun j2 hj2 hf => ?_)
    refine g_iconst Γ (pc := 16) (v := 2) dX7_item_16 rfl ?_
    obtain ⟨v3, h1, hf⟩ := bn1_i hf
    refine g_callVI Γ (pc := 17) (as := [.int 2]) (st := []) dX7_item_17 (c_X5_isNot hC (SlotAt.slot hj2) h1) (C_slot hC (SlotAt.slot hj2)) rfl mi_X5_isNot mv_X5_isNot kM_X7_311 rfl ⟨Nat.le_of_ble_eq_true rfl, Nat.le_of_ble_eq_true rfl⟩ rfl (Nat.le_of_ble_eq_true rfl) ?_
    refine g_istore_n Γ (pc := 20) (lv' := [(3, .int v3), (0, .ref (sq Y 0)), (1, .int a0), (2, .int a1)]) dX7_item_20 rfl (by decide) rfl ?_
    refine g_iload_n Γ (pc := 21) 0 dX7_item_21 rfl rfl ?_
    refine g_if_eq Γ (pc := 22) (tgt := 27) dX7_item_22 rfl hf (fun hf => ?_) (fun hf => ?_)
    · refine g_aload_n Γ (pc := 27) 1 dX7_item_27 rfl rfl ?_
      refine g_get Γ (pc := 28) (v := .ref (sq Y 50)) dX7_item_28 (C_main hC) fr_X7_53 rfl ?_
      refine g_iload_n Γ (pc := 31) 2 dX7_item_31 rfl rfl ?_
      refine g_aaldT Γ (pc := 32) dX7_item_32 (C_slots hC) hf (fun j4 hj4 hf => ?_)
      refine g_get Γ (pc := 33) (v := .ref (sq Y ((51 + 3 * j4) + 1))) dX7_item_33 (C_slot hC (SlotAt.slot hj4)) fr_X7_301 rfl ?_
      refine g_astore Γ (pc := 36) (lv' := [(4, .ref (sq Y ((51 + 3 * j4) + 1))), (3, .int v3), (0, .ref (sq Y 0)), (1, .int a0), (2, .int a1)]) dX7_item_36 (by decide) rfl ?_
      refine g_aload Γ (pc := 38) 0 dX7_item_38 rfl ?_
      refine g_iload_n Γ (pc := 40) 4 dX7_item_40 rfl rfl ?_
      obtain ⟨v5, h1, hf⟩ := bn1_i hf
      refine g_callVI Γ (pc := 41) (as := [.int a1]) (st := []) dX7_item_41 (c_X4_hasNo hC (SlotAt.row (SlotAt.slot hj4)) h1) (C_row hC (SlotAt.row (SlotAt.slot hj4))) rfl mi_X4_hasNo mv_X4_hasNo kM_X7_273 rfl ⟨Nat.le_of_ble_eq_true rfl, Nat.le_of_ble_eq_true rfl⟩ rfl (Nat.le_of_ble_eq_true rfl) ?_
      refine g_if_eq Γ (pc := 44) (tgt := 51) dX7_item_44 rfl hf (fun hf => ?_) (fun hf => ?_)
      · refine g_aload Γ (pc := 51) 0 dX7_item_51 rfl ?_
        refine g_iload_n Γ (pc := 53) 4 dX7_item_53 rfl rfl ?_
        obtain ⟨v6, h1, hf⟩ := bn1_i hf
        refine g_callVI Γ (pc := 54) (as := [.int a1]) (st := []) dX7_item_54 (c_X4_isNumber hC (SlotAt.row (SlotAt.slot hj4)) h1) (C_row hC (SlotAt.row (SlotAt.slot hj4))) rfl mi_X4_isNumber mv_X4_isNumber kM_X7_224 rfl ⟨Nat.le_of_ble_eq_true rfl, Nat.le_of_ble_eq_true rfl⟩ rfl (Nat.le_of_ble_eq_true rfl) ?_
        refine g_if_eq Γ (pc := 57) (tgt := 70) dX7_item_57 rfl hf (fun hf => ?_) (fun hf => ?_)
        · refine g_ldc Γ (pc := 70) dX7_item_70 kK_X7_123 ?_
          exact rIr ret dX7_item_72 hf
        · refine g_aload Γ (pc := 60) 0 dX7_item_60 rfl ?_
          refine g_get Γ (pc := 62) (v := .ref (sq Y (((51 + 3 * j4) + 1) + 1))) dX7_item_62 (C_row hC (SlotAt.row (SlotAt.slot hj4))) fr_X7_230 rfl ?_
          refine g_iload_n Γ (pc := 65) 4 dX7_item_65 rfl rfl ?_
          refine g_iald Γ (pc := 66) dX7_item_66 (C_row1 hC (SlotAt.row (SlotAt.slot hj4))) hf (fun v7 hf => ?_)
          refine g_goto Γ (pc := 67) (tgt := 72) dX7_item_67 rfl ?_
          exact rIr ret dX7_item_72 hf
      · refine g_ldcw Γ (pc := 47) dX7_item_47 kK_X7_276 ?_
        exact rIr ret dX7_item_50 hf
    · refine g_iload_n Γ (pc := 25) 0 dX7_item_25 rfl rfl ?_
      exact rIr ret dX7_item_26 hf
  · refine g_ldc Γ (pc := 7) dX7_item_7 kK_X7_75 ?_
    exact rIr ret dX7_item_9 hf
def f_X7_rest (a0 : Int32) (a1 : Int32) (μ : Mem) : Option (Int32) :=
  bn1 (f_X7_isNoSlot a0) fun v1 =>
  if v1 = 0 then
    bn1 (rdM 5 a0) fun j2 =>
    bn1 (f_X5_isNot (51 + 3 * j2) 3 μ) fun v3 =>
    if v3 = 0 then
      if a1 = 0 then
        some (-1000000002)
      else
        bn1 (rdM 5 a0) fun j4 =>
        bn1 (rmM (μ (51 + 3 * j4) 4) a1) fun v5 =>
        some v5
    else
      some v3
  else
    some (-1000000001)
set_option maxRecDepth 100000 in
set_option maxHeartbeats 4000000 in
theorem c_X7_rest {Y : SYS} (hC : IsC Y) {a0 : Int32} {a1 : Int32} {μ : Mem} {x : Int32} (hf : f_X7_rest a0 a1 μ = some x) : KC Y yX7_rest cX7_rest 4 (some .int) 2 [.ref (sq Y 0), .int a0, .int a1] μ (some (.int x)) μ := by
  refine KC.I RX7 [(0, .ref (sq Y 0)), (1, .int a0), (2, .int a1)] (by decide) rfl (Nat.le_of_ble_eq_true rfl) rfl (fun G Γ ret => ?_)
  unfold f_X7_rest at hf
  refine g_iload_n Γ (pc := 0) 1 dX7_rest_0 rfl rfl ?_
  obtain ⟨v1, h1, hf⟩ := bn1_i hf
  refine g_callSI Γ (pc := 1) (as := [.int a0]) (st := []) dX7_rest_1 (c_X7_isNoSlot h1) mi_X7_isNoSlot ms_X7_isNoSlot kM_X7_291 rfl ⟨Nat.le_of_ble_eq_true rfl, Nat.le_of_ble_eq_true rfl⟩ rfl (Nat.le_of_ble_eq_true rfl) ?_
  refine g_if_eq Γ (pc := 4) (tgt := 10) dX7_rest_4 rfl hf (fun hf => ?_) (fun hf => ?_)
  · refine g_aload_n Γ (pc := 10) 0 dX7_rest_10 rfl rfl ?_
    refine g_get Γ (pc := 11) (v := .ref (sq Y 50)) dX7_rest_11 (C_main hC) fr_X7_53 rfl ?_
    refine g_iload_n Γ (pc := 14) 1 dX7_rest_14 rfl rfl ?_
    refine g_aaldT Γ (pc := 15) dX7_rest_15 (C_slots hC) hf (fun j2 hj2 hf => ?_)
    refine g_iconst Γ (pc := 16) (v := 3) dX7_rest_16 rfl ?_
    obtain ⟨v3, h1, hf⟩ := bn1_i hf
    refine g_callVI Γ (pc := 17) (as := [.int 3]) (st := []) dX7_rest_17 (c_X5_isNot hC (SlotAt.slot hj2) h1) (C_slot hC (SlotAt.slot hj2)) rfl mi_X5_isNot mv_X5_isNot kM_X7_311 rfl ⟨Nat.le_of_ble_eq_true rfl, Nat.le_of_ble_eq_true rfl⟩ rfl (Nat.le_of_ble_eq_true rfl) ?_
    refine g_istore_n Γ (pc := 20) (lv' := [(3, .int v3), (0, .ref (sq Y 0)), (1, .int a0), (2, .int a1)]) dX7_rest_20 rfl (by decide) rfl ?_
    refine g_iload_n Γ (pc := 21) 0 dX7_rest_21 rfl rfl ?_
    refine g_if_eq Γ (pc := 22) (tgt := 27) dX7_rest_22 rfl hf (fun hf => ?_) (fun hf => ?_)
    · refine g_iload_n Γ (pc := 27) 3 dX7_rest_27 rfl rfl ?_
      refine g_if_ne Γ (pc := 28) (tgt := 36) dX7_rest_28 rfl hf (fun hf => ?_) (fun hf => ?_)
      · refine g_aload_n Γ (pc := 36) 1 dX7_rest_36 rfl rfl ?_
        refine g_get Γ (pc := 37) (v := .ref (sq Y 50)) dX7_rest_37 (C_main hC) fr_X7_53 rfl ?_
        refine g_iload_n Γ (pc := 40) 2 dX7_rest_40 rfl rfl ?_
        refine g_aaldT Γ (pc := 41) dX7_rest_41 (C_slots hC) hf (fun j4 hj4 hf => ?_)
        refine g_get Γ (pc := 42) (v := .int (μ (51 + 3 * j4) 4)) dX7_rest_42 (C_slot hC (SlotAt.slot hj4)) fr_X7_308 rfl ?_
        refine g_iload_n Γ (pc := 45) 3 dX7_rest_45 rfl rfl ?_
        refine g_irem Γ (pc := 46) dX7_rest_46 hf (fun v5 hf => ?_)
        exact rIr ret dX7_rest_47 hf
      · refine g_ldc Γ (pc := 31) dX7_rest_31 kK_X7_193 ?_
        refine g_goto Γ (pc := 33) (tgt := 47) dX7_rest_33 rfl ?_
        exact rIr ret dX7_rest_47 hf
    · refine g_iload_n Γ (pc := 25) 0 dX7_rest_25 rfl rfl ?_
      exact rIr ret dX7_rest_26 hf
  · refine g_ldc Γ (pc := 7) dX7_rest_7 kK_X7_75 ?_
    exact rIr ret dX7_rest_9 hf
def f_X7_tell (a0 : Int32) (μ : Mem) : Option (Int32 × Mem) :=
  if (μ 0 9) < 60 then
    bn1 (stM μ 66 60 (μ 0 9) a0) fun m1 =>
    nm (mset m1 0 9 ((m1 0 9) + 1)) fun m2 =>
    some ((m2 0 9), m2)
  else
    some ((-1000000003), μ)
set_option maxRecDepth 100000 in
set_option maxHeartbeats 4000000 in
theorem c_X7_tell {Y : SYS} (hC : IsC Y) {a0 : Int32} {μ : Mem} {x : Int32} {m : Mem} (hf : f_X7_tell a0 μ = some (x, m)) : KC Y yX7_tell cX7_tell 2 (some .int) 0 [.ref (sq Y 0), .int a0] μ (some (.int x)) m := by
  refine KC.I RX7 [(0, .ref (sq Y 0)), (1, .int a0)] (by decide) rfl (Nat.le_of_ble_eq_true rfl) rfl (fun G Γ ret => ?_)
  unfold f_X7_tell at hf
  refine g_aload_n Γ (pc := 0) 0 dX7_tell_0 rfl rfl ?_
  refine g_get Γ (pc := 1) (v := .int (μ 0 9)) dX7_tell_1 (C_main hC) fr_X7_61 rfl ?_
  refine g_bipush Γ (pc := 4) (v := 60) dX7_tell_4 rfl ?_
  refine g_icmp_lt Γ (pc := 6) (tgt := 12) dX7_tell_6 rfl hf (fun hf => ?_) (fun hf => ?_)
  · refine g_aload_n Γ (pc := 12) 0 dX7_tell_12 rfl rfl ?_
    refine g_get Γ (pc := 13) (v := .ref (sq Y 66)) dX7_tell_13 (C_main hC) fr_X7_57 rfl ?_
    refine g_aload_n Γ (pc := 16) 0 dX7_tell_16 rfl rfl ?_
    refine g_get Γ (pc := 17) (v := .int (μ 0 9)) dX7_tell_17 (C_main hC) fr_X7_61 rfl ?_
    refine g_iload_n Γ (pc := 20) 1 dX7_tell_20 rfl rfl ?_
    refine g_iast Γ (pc := 21) dX7_tell_21 (C_66 hC) hf (fun m1 hf => ?_)
    refine g_aload_n Γ (pc := 22) 0 dX7_tell_22 rfl rfl ?_
    refine g_dup Γ (pc := 23) dX7_tell_23 rfl ?_
    refine g_get Γ (pc := 24) (v := .int (m1 0 9)) dX7_tell_24 (C_main hC) fr_X7_61 rfl ?_
    refine g_iconst Γ (pc := 27) (v := 1) dX7_tell_27 rfl ?_
    refine g_iadd Γ (pc := 28) dX7_tell_28 ?_
    refine g_put Γ (pc := 29) dX7_tell_29 (C_main hC) fw_X7_61 (Nat.le_of_ble_eq_true rfl) rfl ?_
    refine g_nmm hf (fun m2 hf => ?_)
    refine g_aload_n Γ (pc := 32) 0 dX7_tell_32 rfl rfl ?_
    refine g_get Γ (pc := 33) (v := .int (m2 0 9)) dX7_tell_33 (C_main hC) fr_X7_61 rfl ?_
    exact rI ret dX7_tell_36 hf
  · refine g_ldc Γ (pc := 9) dX7_tell_9 kK_X7_79 ?_
    exact rI ret dX7_tell_11 hf
def f_X7_check_K65_137 (y4_5 : Int32) (m6 : Mem) : Option (Int32 × Mem) :=
  some ((y4_5 + 1), m6)
def f_X7_check_K65_148 (μ : Mem) (e4 : Int32) (m7 : Mem) : Option (Int32 × Mem) :=
  if (μ 0 9) ≤ (2 * e4) then
    some (0, m7)
  else
    some (((2 * e4) + 1), m7)
def f_X7_check_J110 (μ : Mem) (x4_8 : Int32) (m11 : Mem) (s13 : Int32) : Option ((Int32 × Mem) ⊕ ((Int32 × Mem) ⊕ Mem)) :=
  if (μ 0 9) ≤ x4_8 then
    some (.inr (.inl (x4_8, m11)))
  else
    if 60 ≤ x4_8 then
      some (.inr (.inl (x4_8, m11)))
    else
      bn1 (ldM (m11 66) 60 x4_8) fun v14 =>
      if v14 = s13 then
        some (.inl (x4_8 + 1, m11))
      else
        some (.inr (.inl (x4_8, m11)))
def f_X7_check_J86 (μ : Mem) (x4_8 : Int32) (m11 : Mem) : Option ((Int32 × Mem) ⊕ ((Int32 × Mem) ⊕ Mem)) :=
  bn1 (rmM x4_8 2) fun v12 =>
  if v12 = 0 then
    f_X7_check_J110 μ x4_8 m11 (m11 31 6)
  else
    f_X7_check_J110 μ x4_8 m11 (m11 31 10)
def f_X7_check_L65 (μ : Mem) (e4 : Int32) (x4_8 : Int32) (m9 : Mem) : Option ((Int32 × Mem) ⊕ ((Int32 × Mem) ⊕ Mem)) :=
  if (2 * e4) ≤ x4_8 then
    some (.inr (.inr m9))
  else
    bn1 (rmM x4_8 2) fun v10 =>
    if v10 = 0 then
      bn1 (f_X6_pass 31 1 m9) fun m15 =>
      f_X7_check_J86 μ x4_8 m15
    else
      f_X7_check_J86 μ x4_8 m9
def f_X7_check (a0 : Int32) (μ : Mem) : Option (Int32 × Mem) :=
  nm (mset μ 0 9 0) fun m1 =>
  bn1 (f_X7_outside a0 1 30) fun v2 =>
  if v2 = 0 then
    if (m1 0 10) = 0 then
      some ((-1000000002), m1)
    else
      bn1 (f_X6_become 31 26 m1) fun m3 =>
      nm (if (9999 - (m3 26 12)) < a0 then (9999 - (m3 26 12)) else a0) fun e4 =>
      bn1 (lpF (fun v => f_X7_check_L65 μ e4 v.1 v.2) 4000 (0, m3)) (fun x => cs2 x (fun y => f_X7_check_K65_137 y.1 y.2) (fun x0 => f_X7_check_K65_148 μ e4 x0))
  else
    some ((-1000000001), m1)
set_option maxRecDepth 100000 in
set_option maxHeartbeats 4000000 in
theorem c_X7_check {Y : SYS} (hC : IsC Y) {a0 : Int32} {μ : Mem} {x : Int32} {m : Mem} (hf : f_X7_check a0 μ = some (x, m)) : KC Y yX7_check cX7_check 6 (some .int) 7 [.ref (sq Y 0), .int a0] μ (some (.int x)) m := by
  refine KC.I RX7 [(0, .ref (sq Y 0)), (1, .int a0)] (by decide) rfl (Nat.le_of_ble_eq_true rfl) rfl (fun G Γ ret => ?_)
  unfold f_X7_check at hf
  refine g_aload_n Γ (pc := 0) 0 dX7_check_0 rfl rfl ?_
  refine g_get Γ (pc := 1) (v := .int (μ 0 9)) dX7_check_1 (C_main hC) fr_X7_61 rfl ?_
  refine g_istore_n Γ (pc := 4) (lv' := [(2, .int (μ 0 9)), (0, .ref (sq Y 0)), (1, .int a0)]) dX7_check_4 rfl (by decide) rfl ?_
  refine g_aload_n Γ (pc := 5) 1 dX7_check_5 rfl rfl ?_
  refine g_iconst Γ (pc := 6) (v := 0) dX7_check_6 rfl ?_
  refine g_put Γ (pc := 7) dX7_check_7 (C_main hC) fw_X7_61 (Nat.le_of_ble_eq_true rfl) rfl ?_
  refine g_nmm hf (fun m1 hf => ?_)
  refine g_iload_n Γ (pc := 10) 2 dX7_check_10 rfl rfl ?_
  refine g_iconst Γ (pc := 11) (v := 1) dX7_check_11 rfl ?_
  refine g_bipush Γ (pc := 12) (v := 30) dX7_check_12 rfl ?_
  obtain ⟨v2, h1, hf⟩ := bn1_i hf
  refine g_callSI Γ (pc := 14) (as := [.int a0, .int 1, .int 30]) (st := []) dX7_check_14 (c_X7_outside h1) mi_X7_outside ms_X7_outside kM_X7_71 rfl ⟨Nat.le_of_ble_eq_true rfl, Nat.le_of_ble_eq_true rfl⟩ rfl (Nat.le_of_ble_eq_true rfl) ?_
  refine g_if_eq Γ (pc := 17) (tgt := 23) dX7_check_17 rfl hf (fun hf => ?_) (fun hf => ?_)
  · refine g_aload_n Γ (pc := 23) 1 dX7_check_23 rfl rfl ?_
    refine g_get Γ (pc := 24) (v := .int (m1 0 10)) dX7_check_24 (C_main hC) fr_X7_65 rfl ?_
    refine g_if_ne Γ (pc := 27) (tgt := 33) dX7_check_27 rfl hf (fun hf => ?_) (fun hf => ?_)
    · refine g_aload_n Γ (pc := 33) 1 dX7_check_33 rfl rfl ?_
      refine g_get Γ (pc := 34) (v := .ref (sq Y 31)) dX7_check_34 (C_main hC) fr_X7_28 rfl ?_
      refine g_aload_n Γ (pc := 37) 1 dX7_check_37 rfl rfl ?_
      refine g_get Γ (pc := 38) (v := .ref (sq Y 26)) dX7_check_38 (C_main hC) fr_X7_25 rfl ?_
      obtain ⟨m3, h1, hf⟩ := bn1_i hf
      refine g_callVV Γ (pc := 41) (as := [.ref (sq Y 26)]) (st := []) dX7_check_41 (c_X6_become hC (Or.inr (Or.inr rfl)) (Or.inr (Or.inl rfl)) h1) (C_town hC (Or.inr (Or.inr rfl))) rfl mi_X6_become mv_X6_become kM_X7_208 rfl ⟨Nat.le_of_ble_eq_true rfl, Nat.le_of_ble_eq_true rfl⟩ rfl (Nat.le_of_ble_eq_true rfl) ?_
      refine g_iconst Γ (pc := 44) (v := 2) dX7_check_44 rfl ?_
      refine g_iload_n Γ (pc := 45) 2 dX7_check_45 rfl rfl ?_
      refine g_sipush Γ (pc := 46) (v := 9999) dX7_check_46 rfl ?_
      refine g_aload_n Γ (pc := 49) 1 dX7_check_49 rfl rfl ?_
      refine g_get Γ (pc := 50) (v := .ref (sq Y 26)) dX7_check_50 (C_main hC) fr_X7_25 rfl ?_
      refine g_get Γ (pc := 53) (v := .int (m3 26 12)) dX7_check_53 (C_town hC (Or.inr (Or.inl rfl))) fr_X7_202 rfl ?_
      refine g_isub Γ (pc := 56) dX7_check_56 ?_
      refine g_min Γ (pc := 57) dX7_check_57 kM_X7_149 kS_Math_min kI_J9 kC_Math_min (Nat.le_of_ble_eq_true rfl) (Nat.le_of_ble_eq_true rfl) ?_
      refine g_nmi hf (fun e4 hf => ?_)
      refine g_imul Γ (pc := 60) dX7_check_60 ?_
      refine g_istore_n Γ (pc := 61) (lv' := [(3, .int (2 * e4)), (2, .int (μ 0 9)), (0, .ref (sq Y 0)), (1, .int a0)]) dX7_check_61 rfl (by decide) rfl ?_
      refine g_iconst Γ (pc := 62) (v := 0) dX7_check_62 rfl ?_
      refine g_istore Γ (pc := 63) (lv' := [(4, .int 0), (3, .int (2 * e4)), (2, .int (μ 0 9)), (0, .ref (sq Y 0)), (1, .int a0)]) dX7_check_63 (by decide) rfl ?_
      have K_65_137 : ∀ (y4_5 : Int32) (m6 : Mem), f_X7_check_K65_137 y4_5 m6 = some (x, m) → G 137 [(4, .int y4_5)] [] m6 := by
        intro y4_5 m6 hf
        unfold f_X7_check_K65_137 at hf
        refine g_iload Γ (pc := 137) 0 dX7_check_137 rfl ?_
        refine g_iconst Γ (pc := 139) (v := 1) dX7_check_139 rfl ?_
        refine g_iadd Γ (pc := 140) dX7_check_140 ?_
        exact rI ret dX7_check_141 hf
      have K_65_148 : ∀ (m7 : Mem), f_X7_check_K65_148 μ e4 m7 = some (x, m) → G 148 [(2, .int (μ 0 9)), (3, .int (2 * e4))] [] m7 := by
        intro m7 hf
        unfold f_X7_check_K65_148 at hf
        refine g_iload_n Γ (pc := 148) 0 dX7_check_148 rfl rfl ?_
        refine g_iload_n Γ (pc := 149) 1 dX7_check_149 rfl rfl ?_
        refine g_icmp_le Γ (pc := 150) (tgt := 159) dX7_check_150 rfl hf (fun hf => ?_) (fun hf => ?_)
        · refine g_iconst Γ (pc := 159) (v := 0) dX7_check_159 rfl ?_
          exact rI ret dX7_check_160 hf
        · refine g_iload_n Γ (pc := 153) 1 dX7_check_153 rfl rfl ?_
          refine g_iconst Γ (pc := 154) (v := 1) dX7_check_154 rfl ?_
          refine g_iadd Γ (pc := 155) dX7_check_155 ?_
          refine g_goto Γ (pc := 156) (tgt := 160) dX7_check_156 rfl ?_
          exact rI ret dX7_check_160 hf
      refine g_sub Γ [3, 2, 1, 0] rfl ?_
      refine lpF_s (P := fun (v : Int32 × Mem) => G 65 [(0, .ref (sq Y 0)), (2, .int (μ 0 9)), (3, .int (2 * e4)), (4, .int v.1)] [] v.2) hf (fun v z1 hf kI1 kX1 => ?_)
      obtain ⟨x4_8, m9⟩ := v
      replace hf : f_X7_check_L65 μ e4 x4_8 m9 = some z1 := hf
      show G 65 [(0, .ref (sq Y 0)), (2, .int (μ 0 9)), (3, .int (2 * e4)), (4, .int x4_8)] [] m9
      unfold f_X7_check_L65 at hf
      refine g_iload Γ (pc := 65) 3 dX7_check_65 rfl ?_
      refine g_iload_n Γ (pc := 67) 2 dX7_check_67 rfl rfl ?_
      refine g_icmp_ge Γ (pc := 68) (tgt := 148) dX7_check_68 rfl hf (fun hf => ?_) (fun hf => ?_)
      · refine g_sub Γ [1, 2] rfl ?_
        exact K_65_148 m9 (kX1 (.inr m9) (Option.some.inj hf).symm)
      · refine g_iload Γ (pc := 71) 3 dX7_check_71 rfl ?_
        refine g_iconst Γ (pc := 73) (v := 2) dX7_check_73 rfl ?_
        refine g_irem Γ (pc := 74) dX7_check_74 hf (fun v10 hf => ?_)
        have J_86 : ∀ (m11 : Mem), f_X7_check_J86 μ x4_8 m11 = some z1 → G 86 [(0, .ref (sq Y 0)), (2, .int (μ 0 9)), (3, .int (2 * e4)), (4, .int x4_8)] [] m11 := by
          intro m11 hf
          unfold f_X7_check_J86 at hf
          refine g_iload Γ (pc := 86) 3 dX7_check_86 rfl ?_
          refine g_iconst Γ (pc := 88) (v := 2) dX7_check_88 rfl ?_
          refine g_irem Γ (pc := 89) dX7_check_89 hf (fun v12 hf => ?_)
          have J_110 : ∀ (s13 : Int32), f_X7_check_J110 μ x4_8 m11 s13 = some z1 → G 110 [(0, .ref (sq Y 0)), (2, .int (μ 0 9)), (3, .int (2 * e4)), (4, .int x4_8)] [.int s13] m11 := by
            intro s13 hf
            unfold f_X7_check_J110 at hf
            refine g_istore Γ (pc := 110) (lv' := [(5, .int s13), (0, .ref (sq Y 0)), (2, .int (μ 0 9)), (3, .int (2 * e4)), (4, .int x4_8)]) dX7_check_110 (by decide) rfl ?_
            refine g_iload Γ (pc := 112) 4 dX7_check_112 rfl ?_
            refine g_iload_n Γ (pc := 114) 2 dX7_check_114 rfl rfl ?_
            refine g_icmp_ge Γ (pc := 115) (tgt := 137) dX7_check_115 rfl hf (fun hf => ?_) (fun hf => ?_)
            · refine g_sub Γ [4] rfl ?_
              exact K_65_137 x4_8 m11 (kX1 (.inl (x4_8, m11)) (Option.some.inj hf).symm)
            · refine g_iload Γ (pc := 118) 4 dX7_check_118 rfl ?_
              refine g_bipush Γ (pc := 120) (v := 60) dX7_check_120 rfl ?_
              refine g_icmp_ge Γ (pc := 122) (tgt := 137) dX7_check_122 rfl hf (fun hf => ?_) (fun hf => ?_)
              · refine g_sub Γ [4] rfl ?_
                exact K_65_137 x4_8 m11 (kX1 (.inl (x4_8, m11)) (Option.some.inj hf).symm)
              · refine g_aload_n Γ (pc := 125) 1 dX7_check_125 rfl rfl ?_
                refine g_get Γ (pc := 126) (v := .ref (sq Y 66)) dX7_check_126 (C_main hC) fr_X7_57 rfl ?_
                refine g_iload Γ (pc := 129) 4 dX7_check_129 rfl ?_
                refine g_iald Γ (pc := 131) dX7_check_131 (C_66 hC) hf (fun v14 hf => ?_)
                refine g_iload Γ (pc := 132) 0 dX7_check_132 rfl ?_
                refine g_icmp_eq Γ (pc := 134) (tgt := 142) dX7_check_134 rfl hf (fun hf => ?_) (fun hf => ?_)
                · refine g_iinc Γ (pc := 142) (v := x4_8 + 1) (lv' := [(4, .int (x4_8 + 1)), (5, .int s13), (0, .ref (sq Y 0)), (2, .int (μ 0 9)), (3, .int (2 * e4))]) 4 dX7_check_142 rfl rfl (by decide) rfl ?_
                  refine g_goto Γ (pc := 145) (tgt := 65) dX7_check_145 rfl ?_
                  refine g_sub Γ [2, 3, 4, 0] rfl ?_
                  exact kI1 (x4_8 + 1, m11) (Option.some.inj hf).symm
                · refine g_sub Γ [4] rfl ?_
                  exact K_65_137 x4_8 m11 (kX1 (.inl (x4_8, m11)) (Option.some.inj hf).symm)
          refine g_if_ne Γ (pc := 90) (tgt := 103) dX7_check_90 rfl hf (fun hf => ?_) (fun hf => ?_)
          · refine g_aload_n Γ (pc := 103) 0 dX7_check_103 rfl rfl ?_
            refine g_get Γ (pc := 104) (v := .ref (sq Y 31)) dX7_check_104 (C_main hC) fr_X7_28 rfl ?_
            refine g_get Γ (pc := 107) (v := .int (m11 31 10)) dX7_check_107 (C_town hC (Or.inr (Or.inr rfl))) fr_X7_164 rfl ?_
            refine g_sub Γ [0, 1, 2, 3] rfl ?_
            exact J_110 (m11 31 10) hf
          · refine g_aload_n Γ (pc := 93) 0 dX7_check_93 rfl rfl ?_
            refine g_get Γ (pc := 94) (v := .ref (sq Y 31)) dX7_check_94 (C_main hC) fr_X7_28 rfl ?_
            refine g_get Γ (pc := 97) (v := .int (m11 31 6)) dX7_check_97 (C_town hC (Or.inr (Or.inr rfl))) fr_X7_170 rfl ?_
            refine g_goto Γ (pc := 100) (tgt := 110) dX7_check_100 rfl ?_
            refine g_sub Γ [0, 1, 2, 3] rfl ?_
            exact J_110 (m11 31 6) hf
        refine g_if_ne Γ (pc := 75) (tgt := 86) dX7_check_75 rfl hf (fun hf => ?_) (fun hf => ?_)
        · refine g_sub Γ [0, 1, 2, 3] rfl ?_
          exact J_86 m9 hf
        · refine g_aload_n Γ (pc := 78) 0 dX7_check_78 rfl rfl ?_
          refine g_get Γ (pc := 79) (v := .ref (sq Y 31)) dX7_check_79 (C_main hC) fr_X7_28 rfl ?_
          refine g_iconst Γ (pc := 82) (v := 1) dX7_check_82 rfl ?_
          obtain ⟨m15, h1, hf⟩ := bn1_i hf
          refine g_callVV Γ (pc := 83) (as := [.int 1]) (st := []) dX7_check_83 (c_X6_pass hC (Or.inr (Or.inr rfl)) h1) (C_town hC (Or.inr (Or.inr rfl))) rfl mi_X6_pass mv_X6_pass kM_X7_205 rfl ⟨Nat.le_of_ble_eq_true rfl, Nat.le_of_ble_eq_true rfl⟩ rfl (Nat.le_of_ble_eq_true rfl) ?_
          refine g_sub Γ [0, 1, 2, 3] rfl ?_
          exact J_86 m15 hf
    · refine g_ldc Γ (pc := 30) dX7_check_30 kK_X7_193 ?_
      exact rI ret dX7_check_32 hf
  · refine g_ldc Γ (pc := 20) dX7_check_20 kK_X7_75 ?_
    exact rI ret dX7_check_22 hf
def f_X7_keep (μ : Mem) : Option (Int32 × Mem) :=
  bn1 (f_X6_become 26 21 μ) fun m1 =>
  nm (mset m1 0 10 1) fun m2 =>
  some ((m2 26 5), m2)
set_option maxRecDepth 100000 in
set_option maxHeartbeats 4000000 in
theorem c_X7_keep {Y : SYS} (hC : IsC Y) {μ : Mem} {x : Int32} {m : Mem} (hf : f_X7_keep μ = some (x, m)) : KC Y yX7_keep cX7_keep 1 (some .int) 2 [.ref (sq Y 0)] μ (some (.int x)) m := by
  refine KC.I RX7 [(0, .ref (sq Y 0))] (by decide) rfl (Nat.le_of_ble_eq_true rfl) rfl (fun G Γ ret => ?_)
  unfold f_X7_keep at hf
  refine g_aload_n Γ (pc := 0) 0 dX7_keep_0 rfl rfl ?_
  refine g_get Γ (pc := 1) (v := .ref (sq Y 26)) dX7_keep_1 (C_main hC) fr_X7_25 rfl ?_
  refine g_aload_n Γ (pc := 4) 0 dX7_keep_4 rfl rfl ?_
  refine g_get Γ (pc := 5) (v := .ref (sq Y 21)) dX7_keep_5 (C_main hC) fr_X7_21 rfl ?_
  obtain ⟨m1, h1, hf⟩ := bn1_i hf
  refine g_callVV Γ (pc := 8) (as := [.ref (sq Y 21)]) (st := []) dX7_keep_8 (c_X6_become hC (Or.inr (Or.inl rfl)) (Or.inl rfl) h1) (C_town hC (Or.inr (Or.inl rfl))) rfl mi_X6_become mv_X6_become kM_X7_208 rfl ⟨Nat.le_of_ble_eq_true rfl, Nat.le_of_ble_eq_true rfl⟩ rfl (Nat.le_of_ble_eq_true rfl) ?_
  refine g_aload_n Γ (pc := 11) 0 dX7_keep_11 rfl rfl ?_
  refine g_iconst Γ (pc := 12) (v := 1) dX7_keep_12 rfl ?_
  refine g_putz Γ (pc := 13) dX7_keep_13 (C_main hC) fw_X7_65 (Or.inr rfl) (Nat.le_of_ble_eq_true rfl) rfl ?_
  refine g_nmm hf (fun m2 hf => ?_)
  refine g_aload_n Γ (pc := 16) 0 dX7_keep_16 rfl rfl ?_
  refine g_get Γ (pc := 17) (v := .ref (sq Y 26)) dX7_keep_17 (C_main hC) fr_X7_25 rfl ?_
  refine g_get Γ (pc := 20) (v := .int (m2 26 5)) dX7_keep_20 (C_town hC (Or.inr (Or.inl rfl))) fr_X7_76 rfl ?_
  exact rI ret dX7_keep_23 hf
def f_X7_back (μ : Mem) : Option (Int32 × Mem) :=
  if (μ 0 10) = 0 then
    some ((-1000000002), μ)
  else
    bn1 (f_X6_become 21 26 μ) fun m1 =>
    some ((m1 21 5), m1)
set_option maxRecDepth 100000 in
set_option maxHeartbeats 4000000 in
theorem c_X7_back {Y : SYS} (hC : IsC Y) {μ : Mem} {x : Int32} {m : Mem} (hf : f_X7_back μ = some (x, m)) : KC Y yX7_back cX7_back 1 (some .int) 2 [.ref (sq Y 0)] μ (some (.int x)) m := by
  refine KC.I RX7 [(0, .ref (sq Y 0))] (by decide) rfl (Nat.le_of_ble_eq_true rfl) rfl (fun G Γ ret => ?_)
  unfold f_X7_back at hf
  refine g_aload_n Γ (pc := 0) 0 dX7_back_0 rfl rfl ?_
  refine g_get Γ (pc := 1) (v := .int (μ 0 10)) dX7_back_1 (C_main hC) fr_X7_65 rfl ?_
  refine g_if_ne Γ (pc := 4) (tgt := 10) dX7_back_4 rfl hf (fun hf => ?_) (fun hf => ?_)
  · refine g_aload_n Γ (pc := 10) 0 dX7_back_10 rfl rfl ?_
    refine g_get Γ (pc := 11) (v := .ref (sq Y 21)) dX7_back_11 (C_main hC) fr_X7_21 rfl ?_
    refine g_aload_n Γ (pc := 14) 0 dX7_back_14 rfl rfl ?_
    refine g_get Γ (pc := 15) (v := .ref (sq Y 26)) dX7_back_15 (C_main hC) fr_X7_25 rfl ?_
    obtain ⟨m1, h1, hf⟩ := bn1_i hf
    refine g_callVV Γ (pc := 18) (as := [.ref (sq Y 26)]) (st := []) dX7_back_18 (c_X6_become hC (Or.inl rfl) (Or.inr (Or.inl rfl)) h1) (C_town hC (Or.inl rfl)) rfl mi_X6_become mv_X6_become kM_X7_208 rfl ⟨Nat.le_of_ble_eq_true rfl, Nat.le_of_ble_eq_true rfl⟩ rfl (Nat.le_of_ble_eq_true rfl) ?_
    refine g_aload_n Γ (pc := 21) 0 dX7_back_21 rfl rfl ?_
    refine g_get Γ (pc := 22) (v := .ref (sq Y 21)) dX7_back_22 (C_main hC) fr_X7_21 rfl ?_
    refine g_get Γ (pc := 25) (v := .int (m1 21 5)) dX7_back_25 (C_town hC (Or.inl rfl)) fr_X7_76 rfl ?_
    exact rI ret dX7_back_28 hf
  · refine g_ldc Γ (pc := 7) dX7_back_7 kK_X7_193 ?_
    exact rI ret dX7_back_9 hf
def f_X7_count (a0 : Int32) (μ : Mem) : Option (Int32) :=
  if a0 = 0 then
    some (μ 21 5)
  else
    if a0 = 1 then
      some (μ 21 12)
    else
      if a0 = 2 then
        some (μ 21 7)
      else
        if a0 = 3 then
          some (μ 21 8)
        else
          if a0 = 4 then
            some (μ 21 9)
          else
            if a0 = 5 then
              bn1 (f_J6_bitCount_0f7a4 (μ 21 6)) fun v1 =>
              some v1
            else
              if a0 = 6 then
                some (μ 21 14)
              else
                if a0 = 7 then
                  some (μ 0 9)
                else
                  if a0 = 8 then
                    some (μ 38 2)
                  else
                    if a0 = 9 then
                      some (μ 21 13)
                    else
                      some (-1000000001)
set_option maxRecDepth 100000 in
set_option maxHeartbeats 4000000 in
theorem c_X7_count {Y : SYS} (hC : IsC Y) {a0 : Int32} {μ : Mem} {x : Int32} (hf : f_X7_count a0 μ = some x) : KC Y yX7_count cX7_count 2 (some .int) 1 [.ref (sq Y 0), .int a0] μ (some (.int x)) μ := by
  refine KC.I RX7 [(0, .ref (sq Y 0)), (1, .int a0)] (by decide) rfl (Nat.le_of_ble_eq_true rfl) rfl (fun G Γ ret => ?_)
  unfold f_X7_count at hf
  refine g_iload_n Γ (pc := 0) 1 dX7_count_0 rfl rfl ?_
  by_cases h1_0 : a0 = 0
  · replace hf := ite_t h1_0 hf
    refine g_tin Γ (pc := 1) (tgt := 56) 0 dX7_count_1 h1_0 (by decide) (by decide) rfl rfl ?_
    refine g_aload_n Γ (pc := 56) 0 dX7_count_56 rfl rfl ?_
    refine g_get Γ (pc := 57) (v := .ref (sq Y 21)) dX7_count_57 (C_main hC) fr_X7_21 rfl ?_
    refine g_get Γ (pc := 60) (v := .int (μ 21 5)) dX7_count_60 (C_town hC (Or.inl rfl)) fr_X7_76 rfl ?_
    exact rIr ret dX7_count_63 hf
  · replace hf := ite_f h1_0 hf
    by_cases h1_1 : a0 = 1
    · replace hf := ite_t h1_1 hf
      refine g_tin Γ (pc := 1) (tgt := 64) 1 dX7_count_1 h1_1 (by decide) (by decide) rfl rfl ?_
      refine g_aload_n Γ (pc := 64) 0 dX7_count_64 rfl rfl ?_
      refine g_get Γ (pc := 65) (v := .ref (sq Y 21)) dX7_count_65 (C_main hC) fr_X7_21 rfl ?_
      refine g_get Γ (pc := 68) (v := .int (μ 21 12)) dX7_count_68 (C_town hC (Or.inl rfl)) fr_X7_202 rfl ?_
      exact rIr ret dX7_count_71 hf
    · replace hf := ite_f h1_1 hf
      by_cases h1_2 : a0 = 2
      · replace hf := ite_t h1_2 hf
        refine g_tin Γ (pc := 1) (tgt := 72) 2 dX7_count_1 h1_2 (by decide) (by decide) rfl rfl ?_
        refine g_aload_n Γ (pc := 72) 0 dX7_count_72 rfl rfl ?_
        refine g_get Γ (pc := 73) (v := .ref (sq Y 21)) dX7_count_73 (C_main hC) fr_X7_21 rfl ?_
        refine g_get Γ (pc := 76) (v := .int (μ 21 7)) dX7_count_76 (C_town hC (Or.inl rfl)) fr_X7_140 rfl ?_
        exact rIr ret dX7_count_79 hf
      · replace hf := ite_f h1_2 hf
        by_cases h1_3 : a0 = 3
        · replace hf := ite_t h1_3 hf
          refine g_tin Γ (pc := 1) (tgt := 80) 3 dX7_count_1 h1_3 (by decide) (by decide) rfl rfl ?_
          refine g_aload_n Γ (pc := 80) 0 dX7_count_80 rfl rfl ?_
          refine g_get Γ (pc := 81) (v := .ref (sq Y 21)) dX7_count_81 (C_main hC) fr_X7_21 rfl ?_
          refine g_get Γ (pc := 84) (v := .int (μ 21 8)) dX7_count_84 (C_town hC (Or.inl rfl)) fr_X7_143 rfl ?_
          exact rIr ret dX7_count_87 hf
        · replace hf := ite_f h1_3 hf
          by_cases h1_4 : a0 = 4
          · replace hf := ite_t h1_4 hf
            refine g_tin Γ (pc := 1) (tgt := 88) 4 dX7_count_1 h1_4 (by decide) (by decide) rfl rfl ?_
            refine g_aload_n Γ (pc := 88) 0 dX7_count_88 rfl rfl ?_
            refine g_get Γ (pc := 89) (v := .ref (sq Y 21)) dX7_count_89 (C_main hC) fr_X7_21 rfl ?_
            refine g_get Γ (pc := 92) (v := .int (μ 21 9)) dX7_count_92 (C_town hC (Or.inl rfl)) fr_X7_146 rfl ?_
            exact rIr ret dX7_count_95 hf
          · replace hf := ite_f h1_4 hf
            by_cases h1_5 : a0 = 5
            · replace hf := ite_t h1_5 hf
              refine g_tin Γ (pc := 1) (tgt := 96) 5 dX7_count_1 h1_5 (by decide) (by decide) rfl rfl ?_
              refine g_aload_n Γ (pc := 96) 0 dX7_count_96 rfl rfl ?_
              refine g_get Γ (pc := 97) (v := .ref (sq Y 21)) dX7_count_97 (C_main hC) fr_X7_21 rfl ?_
              refine g_get Γ (pc := 100) (v := .int (μ 21 6)) dX7_count_100 (C_town hC (Or.inl rfl)) fr_X7_170 rfl ?_
              obtain ⟨v1, h1, hf⟩ := bn1_i hf
              refine g_callSI Γ (pc := 103) (as := [.int (μ 21 6)]) (st := []) dX7_count_103 (c_J6_bitCount_0f7a4 h1) mi_J6_bitCount_0f7a4 ms_J6_bitCount_0f7a4 kM_X7_314 rfl ⟨Nat.le_of_ble_eq_true rfl, Nat.le_of_ble_eq_true rfl⟩ rfl (Nat.le_of_ble_eq_true rfl) ?_
              exact rIr ret dX7_count_106 hf
            · replace hf := ite_f h1_5 hf
              by_cases h1_6 : a0 = 6
              · replace hf := ite_t h1_6 hf
                refine g_tin Γ (pc := 1) (tgt := 107) 6 dX7_count_1 h1_6 (by decide) (by decide) rfl rfl ?_
                refine g_aload_n Γ (pc := 107) 0 dX7_count_107 rfl rfl ?_
                refine g_get Γ (pc := 108) (v := .ref (sq Y 21)) dX7_count_108 (C_main hC) fr_X7_21 rfl ?_
                refine g_get Γ (pc := 111) (v := .int (μ 21 14)) dX7_count_111 (C_town hC (Or.inl rfl)) fr_X7_236 rfl ?_
                exact rIr ret dX7_count_114 hf
              · replace hf := ite_f h1_6 hf
                by_cases h1_7 : a0 = 7
                · replace hf := ite_t h1_7 hf
                  refine g_tin Γ (pc := 1) (tgt := 115) 7 dX7_count_1 h1_7 (by decide) (by decide) rfl rfl ?_
                  refine g_aload_n Γ (pc := 115) 0 dX7_count_115 rfl rfl ?_
                  refine g_get Γ (pc := 116) (v := .int (μ 0 9)) dX7_count_116 (C_main hC) fr_X7_61 rfl ?_
                  exact rIr ret dX7_count_119 hf
                · replace hf := ite_f h1_7 hf
                  by_cases h1_8 : a0 = 8
                  · replace hf := ite_t h1_8 hf
                    refine g_tin Γ (pc := 1) (tgt := 120) 8 dX7_count_1 h1_8 (by decide) (by decide) rfl rfl ?_
                    refine g_aload_n Γ (pc := 120) 0 dX7_count_120 rfl rfl ?_
                    refine g_get Γ (pc := 121) (v := .ref (sq Y 38)) dX7_count_121 (C_main hC) fr_X7_41 rfl ?_
                    refine g_get Γ (pc := 124) (v := .int (μ 38 2)) dX7_count_124 (C_reader hC) fr_X7_246 rfl ?_
                    exact rIr ret dX7_count_127 hf
                  · replace hf := ite_f h1_8 hf
                    by_cases h1_9 : a0 = 9
                    · replace hf := ite_t h1_9 hf
                      refine g_tin Γ (pc := 1) (tgt := 128) 9 dX7_count_1 h1_9 (by decide) (by decide) rfl rfl ?_
                      refine g_aload_n Γ (pc := 128) 0 dX7_count_128 rfl rfl ?_
                      refine g_get Γ (pc := 129) (v := .ref (sq Y 21)) dX7_count_129 (C_main hC) fr_X7_21 rfl ?_
                      refine g_get Γ (pc := 132) (v := .int (μ 21 13)) dX7_count_132 (C_town hC (Or.inl rfl)) fr_X7_158 rfl ?_
                      exact rIr ret dX7_count_135 hf
                    · replace hf := ite_f h1_9 hf
                      refine g_tableOut Γ (pc := 1) (tgt := 136) dX7_count_1 (by have e0 := ne_ti (k := 0) rfl h1_0; have e1 := ne_ti (k := 1) rfl h1_1; have e2 := ne_ti (k := 2) rfl h1_2; have e3 := ne_ti (k := 3) rfl h1_3; have e4 := ne_ti (k := 4) rfl h1_4; have e5 := ne_ti (k := 5) rfl h1_5; have e6 := ne_ti (k := 6) rfl h1_6; have e7 := ne_ti (k := 7) rfl h1_7; have e8 := ne_ti (k := 8) rfl h1_8; have e9 := ne_ti (k := 9) rfl h1_9; omega) rfl ?_
                      refine g_ldc Γ (pc := 136) dX7_count_136 kK_X7_75 ?_
                      exact rIr ret dX7_count_138 hf
