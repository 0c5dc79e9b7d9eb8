def f_X3_append_K3_48 (m1 : Mem) : Option (Mem) :=
  some m1
def f_X3_append_L3 (a0 : Int32) (x2_2 : Int32) (m3 : Mem) : Option ((Int32 × Mem) ⊕ Mem) :=
  if x2_2 < 0 then
    some (.inr m3)
  else
    if 96 ≤ (m3 38 2) then
      some (.inr m3)
    else
      bn1 (stM m3 39 96 (m3 38 2) (((a0.toUInt32 >>> ((x2_2 : Int32).toUInt32 &&& Int32.toUInt32 31)).toInt32) &&& 255)) fun m4 =>
      nm (mset m4 38 2 ((m4 38 2) + 1)) fun m5 =>
      some (.inl (x2_2 + (-8), m5))
def f_X3_append (a0 : Int32) (μ : Mem) : Option (Mem) :=
  bn1 (lpF (fun v => f_X3_append_L3 a0 v.1 v.2) 4000 (24, μ)) (fun x => f_X3_append_K3_48 x)
set_option maxRecDepth 100000 in
set_option maxHeartbeats 4000000 in
theorem c_X3_append {Y : SYS} (hC : IsC Y) {a0 : Int32} {μ : Mem} {m : Mem} (hf : f_X3_append a0 μ = some m) : KC Y yX3_append cX3_append 3 none 0 [.ref (sq Y 38), .int a0] μ none m := by
  refine KC.V RX3 [(0, .ref (sq Y 38)), (1, .int a0)] (by decide) rfl (Nat.le_of_ble_eq_true rfl) rfl (fun G Γ ret => ?_)
  unfold f_X3_append at hf
  refine g_bipush Γ (pc := 0) (v := 24) dX3_append_0 rfl ?_
  refine g_istore_n Γ (pc := 2) (lv' := [(2, .int 24), (0, .ref (sq Y 38)), (1, .int a0)]) dX3_append_2 rfl (by decide) rfl ?_
  have K_3_48 : ∀ (m1 : Mem), f_X3_append_K3_48 m1 = some m → G 48 [] [] m1 := by
    intro m1 hf
    unfold f_X3_append_K3_48 at hf
    exact rV ret dX3_append_48 hf
  refine g_sub Γ [1, 2, 0] rfl ?_
  refine lpF_s (P := fun (v : Int32 × Mem) => G 3 [(0, .ref (sq Y 38)), (1, .int a0), (2, .int v.1)] [] v.2) hf (fun v z1 hf kI1 kX1 => ?_)
  obtain ⟨x2_2, m3⟩ := v
  replace hf : f_X3_append_L3 a0 x2_2 m3 = some z1 := hf
  show G 3 [(0, .ref (sq Y 38)), (1, .int a0), (2, .int x2_2)] [] m3
  unfold f_X3_append_L3 at hf
  refine g_iload_n Γ (pc := 3) 2 dX3_append_3 rfl rfl ?_
  refine g_if_lt Γ (pc := 4) (tgt := 48) dX3_append_4 rfl hf (fun hf => ?_) (fun hf => ?_)
  · refine g_sub Γ [] rfl ?_
    exact K_3_48 m3 (kX1 m3 (Option.some.inj hf).symm)
  · refine g_aload_n Γ (pc := 7) 0 dX3_append_7 rfl rfl ?_
    refine g_get Γ (pc := 8) (v := .int (m3 38 2)) dX3_append_8 (C_reader hC) fr_X3_18 rfl ?_
    refine g_bipush Γ (pc := 11) (v := 96) dX3_append_11 rfl ?_
    refine g_icmp_ge Γ (pc := 13) (tgt := 48) dX3_append_13 rfl hf (fun hf => ?_) (fun hf => ?_)
    · refine g_sub Γ [] rfl ?_
      exact K_3_48 m3 (kX1 m3 (Option.some.inj hf).symm)
    · refine g_aload_n Γ (pc := 16) 0 dX3_append_16 rfl rfl ?_
      refine g_get Γ (pc := 17) (v := .ref (sq Y 39)) dX3_append_17 (C_reader hC) fr_X3_9 rfl ?_
      refine g_aload_n Γ (pc := 20) 0 dX3_append_20 rfl rfl ?_
      refine g_get Γ (pc := 21) (v := .int (m3 38 2)) dX3_append_21 (C_reader hC) fr_X3_18 rfl ?_
      refine g_iload_n Γ (pc := 24) 1 dX3_append_24 rfl rfl ?_
      refine g_iload_n Γ (pc := 25) 2 dX3_append_25 rfl rfl ?_
      refine g_iushr Γ (pc := 26) dX3_append_26 ?_
      refine g_sipush Γ (pc := 27) (v := 255) dX3_append_27 rfl ?_
      refine g_iand Γ (pc := 30) dX3_append_30 ?_
      refine g_iast Γ (pc := 31) dX3_append_31 (C_39 hC) hf (fun m4 hf => ?_)
      refine g_aload_n Γ (pc := 32) 0 dX3_append_32 rfl rfl ?_
      refine g_dup Γ (pc := 33) dX3_append_33 rfl ?_
      refine g_get Γ (pc := 34) (v := .int (m4 38 2)) dX3_append_34 (C_reader hC) fr_X3_18 rfl ?_
      refine g_iconst Γ (pc := 37) (v := 1) dX3_append_37 rfl ?_
      refine g_iadd Γ (pc := 38) dX3_append_38 ?_
      refine g_put Γ (pc := 39) dX3_append_39 (C_reader hC) fw_X3_18 (Nat.le_of_ble_eq_true rfl) rfl ?_
      refine g_nmm hf (fun m5 hf => ?_)
      refine g_iinc Γ (pc := 42) (v := x2_2 + (-8)) (lv' := [(2, .int (x2_2 + (-8))), (0, .ref (sq Y 38)), (1, .int a0)]) 2 dX3_append_42 rfl rfl (by decide) rfl ?_
      refine g_goto Γ (pc := 45) (tgt := 3) dX3_append_45 rfl ?_
      refine g_sub Γ [1, 2, 0] rfl ?_
      exact kI1 (x2_2 + (-8), m5) (Option.some.inj hf).symm
def f_X3_sortAt_J35 (v1 : Int32) : Option (Int32) :=
  if v1 < 48 then
    some 1
  else
    if 57 < v1 then
      some 1
    else
      some 3
def f_X3_sortAt (a0 : Int32) (μ : Mem) : Option (Int32) :=
  if a0 < 0 then
    some 0
  else
    if a0 < (μ 38 2) then
      bn1 (ldM (μ 39) 96 a0) fun v1 =>
      if v1 < 97 then
        f_X3_sortAt_J35 v1
      else
        if 122 < v1 then
          f_X3_sortAt_J35 v1
        else
          some 2
    else
      some 0
set_option maxRecDepth 100000 in
set_option maxHeartbeats 4000000 in
theorem c_X3_sortAt {Y : SYS} (hC : IsC Y) {a0 : Int32} {μ : Mem} {x : Int32} (hf : f_X3_sortAt a0 μ = some x) : KC Y yX3_sortAt cX3_sortAt 3 (some .int) 0 [.ref (sq Y 38), .int a0] μ (some (.int x)) μ := by
  refine KC.I RX3 [(0, .ref (sq Y 38)), (1, .int a0)] (by decide) rfl (Nat.le_of_ble_eq_true rfl) rfl (fun G Γ ret => ?_)
  unfold f_X3_sortAt at hf
  refine g_iload_n Γ (pc := 0) 1 dX3_sortAt_0 rfl rfl ?_
  refine g_if_lt Γ (pc := 1) (tgt := 12) dX3_sortAt_1 rfl hf (fun hf => ?_) (fun hf => ?_)
  · refine g_iconst Γ (pc := 12) (v := 0) dX3_sortAt_12 rfl ?_
    exact rIr ret dX3_sortAt_13 hf
  · refine g_iload_n Γ (pc := 4) 1 dX3_sortAt_4 rfl rfl ?_
    refine g_aload_n Γ (pc := 5) 0 dX3_sortAt_5 rfl rfl ?_
    refine g_get Γ (pc := 6) (v := .int (μ 38 2)) dX3_sortAt_6 (C_reader hC) fr_X3_18 rfl ?_
    refine g_icmp_lt Γ (pc := 9) (tgt := 14) dX3_sortAt_9 rfl hf (fun hf => ?_) (fun hf => ?_)
    · refine g_aload_n Γ (pc := 14) 0 dX3_sortAt_14 rfl rfl ?_
      refine g_get Γ (pc := 15) (v := .ref (sq Y 39)) dX3_sortAt_15 (C_reader hC) fr_X3_9 rfl ?_
      refine g_iload_n Γ (pc := 18) 1 dX3_sortAt_18 rfl rfl ?_
      refine g_iald Γ (pc := 19) dX3_sortAt_19 (C_39 hC) hf (fun v1 hf => ?_)
      refine g_istore_n Γ (pc := 20) (lv' := [(2, .int v1), (0, .ref (sq Y 38)), (1, .int a0)]) dX3_sortAt_20 rfl (by decide) rfl ?_
      refine g_iload_n Γ (pc := 21) 0 dX3_sortAt_21 rfl rfl ?_
      refine g_bipush Γ (pc := 22) (v := 97) dX3_sortAt_22 rfl ?_
      have J_35 : f_X3_sortAt_J35 v1 = some x → G 35 [(2, .int v1)] [] μ := by
        intro hf
        unfold f_X3_sortAt_J35 at hf
        refine g_iload_n Γ (pc := 35) 0 dX3_sortAt_35 rfl rfl ?_
        refine g_bipush Γ (pc := 36) (v := 48) dX3_sortAt_36 rfl ?_
        refine g_icmp_lt Γ (pc := 38) (tgt := 51) dX3_sortAt_38 rfl hf (fun hf => ?_) (fun hf => ?_)
        · refine g_iconst Γ (pc := 51) (v := 1) dX3_sortAt_51 rfl ?_
          exact rIr ret dX3_sortAt_52 hf
        · refine g_iload_n Γ (pc := 41) 0 dX3_sortAt_41 rfl rfl ?_
          refine g_bipush Γ (pc := 42) (v := 57) dX3_sortAt_42 rfl ?_
          refine g_icmp_gt Γ (pc := 44) (tgt := 51) dX3_sortAt_44 rfl hf (fun hf => ?_) (fun hf => ?_)
          · refine g_iconst Γ (pc := 51) (v := 1) dX3_sortAt_51 rfl ?_
            exact rIr ret dX3_sortAt_52 hf
          · refine g_iconst Γ (pc := 47) (v := 3) dX3_sortAt_47 rfl ?_
            refine g_goto Γ (pc := 48) (tgt := 52) dX3_sortAt_48 rfl ?_
            exact rIr ret dX3_sortAt_52 hf
      refine g_icmp_lt Γ (pc := 24) (tgt := 35) dX3_sortAt_24 rfl hf (fun hf => ?_) (fun hf => ?_)
      · refine g_sub Γ [0] rfl ?_
        exact J_35 hf
      · refine g_iload_n Γ (pc := 27) 0 dX3_sortAt_27 rfl rfl ?_
        refine g_bipush Γ (pc := 28) (v := 122) dX3_sortAt_28 rfl ?_
        refine g_icmp_gt Γ (pc := 30) (tgt := 35) dX3_sortAt_30 rfl hf (fun hf => ?_) (fun hf => ?_)
        · refine g_sub Γ [0] rfl ?_
          exact J_35 hf
        · refine g_iconst Γ (pc := 33) (v := 2) dX3_sortAt_33 rfl ?_
          exact rIr ret dX3_sortAt_34 hf
    · refine g_iconst Γ (pc := 12) (v := 0) dX3_sortAt_12 rfl ?_
      exact rIr ret dX3_sortAt_13 hf
def f_X3_next_K86_127 (μ : Mem) (v1 : Int32) (v4 : Int32) (m7 : Mem) : Option (Mem) :=
  if v1 ≤ 1 then
    nm (mset m7 38 5 0) fun m8 =>
    some m8
  else
    if v4 ≤ 1 then
      nm (mset m7 38 5 0) fun m9 =>
      some m9
    else
      if (m7 38 3) = (μ 38 4) then
        nm (mset m7 38 5 1) fun m11 =>
        some m11
      else
        nm (mset m7 38 5 0) fun m10 =>
        some m10
def f_X3_next_L86 (v4 : Int32) (m12 : Mem) : Option (Mem ⊕ Mem) :=
  if v4 ≤ 1 then
    some (.inr m12)
  else
    if (m12 38 2) ≤ (m12 38 4) then
      some (.inr m12)
    else
      bn1 (f_X3_sortAt (m12 38 4) m12) fun v13 =>
      if v13 = v4 then
        nm (mset m12 38 4 ((m12 38 4) + 1)) fun m14 =>
        some (.inl m14)
      else
        some (.inr m12)
def f_X3_next_J83 (μ : Mem) (v1 : Int32) (m3 : Mem) (v4 : Int32) (s5 : Int32) : Option (Mem) :=
  nm (mset m3 38 4 s5) fun m6 =>
  bn1 (lpF (fun v => f_X3_next_L86 v4 v) 4000 m6) (fun x => f_X3_next_K86_127 μ v1 v4 x)
def f_X3_next_K18_56 (μ : Mem) (v1 : Int32) (m3 : Mem) : Option (Mem) :=
  bn1 (f_X3_sortAt (m3 38 3) m3) fun v4 =>
  if v4 = 0 then
    f_X3_next_J83 μ v1 m3 v4 (m3 38 3)
  else
    f_X3_next_J83 μ v1 m3 v4 ((m3 38 3) + 1)
def f_X3_next_L18 (m15 : Mem) : Option (Mem ⊕ Mem) :=
  if (m15 38 2) ≤ (m15 38 3) then
    some (.inr m15)
  else
    bn1 (ldM (m15 39) 96 (m15 38 3)) fun v16 =>
    if v16 = 32 then
      nm (mset m15 38 3 ((m15 38 3) + 1)) fun m17 =>
      some (.inl m17)
    else
      some (.inr m15)
def f_X3_next (μ : Mem) : Option (Mem) :=
  bn1 (f_X3_sortAt ((μ 38 4) - 1) μ) fun v1 =>
  nm (mset μ 38 3 (μ 38 4)) fun m2 =>
  bn1 (lpF (fun v => f_X3_next_L18 v) 4000 m2) (fun x => f_X3_next_K18_56 μ v1 x)
set_option maxRecDepth 100000 in
set_option maxHeartbeats 4000000 in
theorem c_X3_next {Y : SYS} (hC : IsC Y) {μ : Mem} {m : Mem} (hf : f_X3_next μ = some m) : KC Y yX3_next cX3_next 4 none 1 [.ref (sq Y 38)] μ none m := by
  refine KC.V RX3 [(0, .ref (sq Y 38))] (by decide) rfl (Nat.le_of_ble_eq_true rfl) rfl (fun G Γ ret => ?_)
  unfold f_X3_next at hf
  refine g_aload_n Γ (pc := 0) 0 dX3_next_0 rfl rfl ?_
  refine g_get Γ (pc := 1) (v := .int (μ 38 4)) dX3_next_1 (C_reader hC) fr_X3_25 rfl ?_
  refine g_istore_n Γ (pc := 4) (lv' := [(1, .int (μ 38 4)), (0, .ref (sq Y 38))]) dX3_next_4 rfl (by decide) rfl ?_
  refine g_aload_n Γ (pc := 5) 1 dX3_next_5 rfl rfl ?_
  refine g_iload_n Γ (pc := 6) 0 dX3_next_6 rfl rfl ?_
  refine g_iconst Γ (pc := 7) (v := 1) dX3_next_7 rfl ?_
  refine g_isub Γ (pc := 8) dX3_next_8 ?_
  obtain ⟨v1, h1, hf⟩ := bn1_i hf
  refine g_callVI Γ (pc := 9) (as := [.int ((μ 38 4) - 1)]) (st := []) dX3_next_9 (c_X3_sortAt hC h1) (C_reader hC) rfl mi_X3_sortAt mv_X3_sortAt kM_X3_52 rfl ⟨Nat.le_of_ble_eq_true rfl, Nat.le_of_ble_eq_true rfl⟩ rfl (Nat.le_of_ble_eq_true rfl) ?_
  refine g_istore_n Γ (pc := 12) (lv' := [(2, .int v1), (1, .int (μ 38 4)), (0, .ref (sq Y 38))]) dX3_next_12 rfl (by decide) rfl ?_
  refine g_aload_n Γ (pc := 13) 2 dX3_next_13 rfl rfl ?_
  refine g_iload_n Γ (pc := 14) 1 dX3_next_14 rfl rfl ?_
  refine g_put Γ (pc := 15) dX3_next_15 (C_reader hC) fw_X3_22 (Nat.le_of_ble_eq_true rfl) rfl ?_
  refine g_nmm hf (fun m2 hf => ?_)
  have K_18_56 : ∀ (m3 : Mem), f_X3_next_K18_56 μ v1 m3 = some m → G 56 [(0, .ref (sq Y 38)), (1, .int (μ 38 4)), (2, .int v1)] [] m3 := by
    intro m3 hf
    unfold f_X3_next_K18_56 at hf
    refine g_aload_n Γ (pc := 56) 0 dX3_next_56 rfl rfl ?_
    refine g_aload_n Γ (pc := 57) 0 dX3_next_57 rfl rfl ?_
    refine g_get Γ (pc := 58) (v := .int (m3 38 3)) dX3_next_58 (C_reader hC) fr_X3_22 rfl ?_
    obtain ⟨v4, h1, hf⟩ := bn1_i hf
    refine g_callVI Γ (pc := 61) (as := [.int (m3 38 3)]) (st := []) dX3_next_61 (c_X3_sortAt hC h1) (C_reader hC) rfl mi_X3_sortAt mv_X3_sortAt kM_X3_52 rfl ⟨Nat.le_of_ble_eq_true rfl, Nat.le_of_ble_eq_true rfl⟩ rfl (Nat.le_of_ble_eq_true rfl) ?_
    refine g_istore_n Γ (pc := 64) (lv' := [(3, .int v4), (0, .ref (sq Y 38)), (1, .int (μ 38 4)), (2, .int v1)]) dX3_next_64 rfl (by decide) rfl ?_
    refine g_aload_n Γ (pc := 65) 1 dX3_next_65 rfl rfl ?_
    refine g_iload_n Γ (pc := 66) 0 dX3_next_66 rfl rfl ?_
    have J_83 : ∀ (s5 : Int32), f_X3_next_J83 μ v1 m3 v4 s5 = some m → G 83 [(0, .ref (sq Y 38)), (1, .int (μ 38 4)), (2, .int v1), (3, .int v4)] [.int s5, .ref (sq Y 38)] m3 := by
      intro s5 hf
      unfold f_X3_next_J83 at hf
      refine g_put Γ (pc := 83) dX3_next_83 (C_reader hC) fw_X3_25 (Nat.le_of_ble_eq_true rfl) rfl ?_
      refine g_nmm hf (fun m6 hf => ?_)
      have K_86_127 : ∀ (m7 : Mem), f_X3_next_K86_127 μ v1 v4 m7 = some m → G 127 [(0, .ref (sq Y 38)), (1, .int (μ 38 4)), (2, .int v1), (3, .int v4)] [] m7 := by
        intro m7 hf
        unfold f_X3_next_K86_127 at hf
        refine g_aload_n Γ (pc := 127) 0 dX3_next_127 rfl rfl ?_
        refine g_iload_n Γ (pc := 128) 2 dX3_next_128 rfl rfl ?_
        refine g_iconst Γ (pc := 129) (v := 1) dX3_next_129 rfl ?_
        refine g_icmp_le Γ (pc := 130) (tgt := 150) dX3_next_130 rfl hf (fun hf => ?_) (fun hf => ?_)
        · refine g_iconst Γ (pc := 150) (v := 0) dX3_next_150 rfl ?_
          refine g_putz Γ (pc := 151) dX3_next_151 (C_reader hC) fw_X3_28 (Or.inl rfl) (Nat.le_of_ble_eq_true rfl) rfl ?_
          refine g_nmm hf (fun m8 hf => ?_)
          exact rV ret dX3_next_154 hf
        · refine g_iload_n Γ (pc := 133) 3 dX3_next_133 rfl rfl ?_
          refine g_iconst Γ (pc := 134) (v := 1) dX3_next_134 rfl ?_
          refine g_icmp_le Γ (pc := 135) (tgt := 150) dX3_next_135 rfl hf (fun hf => ?_) (fun hf => ?_)
          · refine g_iconst Γ (pc := 150) (v := 0) dX3_next_150 rfl ?_
            refine g_putz Γ (pc := 151) dX3_next_151 (C_reader hC) fw_X3_28 (Or.inl rfl) (Nat.le_of_ble_eq_true rfl) rfl ?_
            refine g_nmm hf (fun m9 hf => ?_)
            exact rV ret dX3_next_154 hf
          · refine g_aload_n Γ (pc := 138) 0 dX3_next_138 rfl rfl ?_
            refine g_get Γ (pc := 139) (v := .int (m7 38 3)) dX3_next_139 (C_reader hC) fr_X3_22 rfl ?_
            refine g_iload_n Γ (pc := 142) 1 dX3_next_142 rfl rfl ?_
            refine g_icmp_ne Γ (pc := 143) (tgt := 150) dX3_next_143 rfl hf (fun hf => ?_) (fun hf => ?_)
            · refine g_iconst Γ (pc := 150) (v := 0) dX3_next_150 rfl ?_
              refine g_putz Γ (pc := 151) dX3_next_151 (C_reader hC) fw_X3_28 (Or.inl rfl) (Nat.le_of_ble_eq_true rfl) rfl ?_
              refine g_nmm hf (fun m10 hf => ?_)
              exact rV ret dX3_next_154 hf
            · refine g_iconst Γ (pc := 146) (v := 1) dX3_next_146 rfl ?_
              refine g_goto Γ (pc := 147) (tgt := 151) dX3_next_147 rfl ?_
              refine g_putz Γ (pc := 151) dX3_next_151 (C_reader hC) fw_X3_28 (Or.inr rfl) (Nat.le_of_ble_eq_true rfl) rfl ?_
              refine g_nmm hf (fun m11 hf => ?_)
              exact rV ret dX3_next_154 hf
      refine g_sub Γ [0, 1, 2, 3] rfl ?_
      refine lpF_s (P := fun (v : Mem) => G 86 [(0, .ref (sq Y 38)), (1, .int (μ 38 4)), (2, .int v1), (3, .int v4)] [] v) hf (fun v z1 hf kI1 kX1 => ?_)
      obtain ⟨m12, rfl⟩ : ∃ w, w = v := ⟨v, rfl⟩
      replace hf : f_X3_next_L86 v4 m12 = some z1 := hf
      show G 86 [(0, .ref (sq Y 38)), (1, .int (μ 38 4)), (2, .int v1), (3, .int v4)] [] m12
      unfold f_X3_next_L86 at hf
      refine g_iload_n Γ (pc := 86) 3 dX3_next_86 rfl rfl ?_
      refine g_iconst Γ (pc := 87) (v := 1) dX3_next_87 rfl ?_
      refine g_icmp_le Γ (pc := 88) (tgt := 127) dX3_next_88 rfl hf (fun hf => ?_) (fun hf => ?_)
      · refine g_sub Γ [0, 1, 2, 3] rfl ?_
        exact K_86_127 m12 (kX1 m12 (Option.some.inj hf).symm)
      · refine g_aload_n Γ (pc := 91) 0 dX3_next_91 rfl rfl ?_
        refine g_get Γ (pc := 92) (v := .int (m12 38 4)) dX3_next_92 (C_reader hC) fr_X3_25 rfl ?_
        refine g_aload_n Γ (pc := 95) 0 dX3_next_95 rfl rfl ?_
        refine g_get Γ (pc := 96) (v := .int (m12 38 2)) dX3_next_96 (C_reader hC) fr_X3_18 rfl ?_
        refine g_icmp_ge Γ (pc := 99) (tgt := 127) dX3_next_99 rfl hf (fun hf => ?_) (fun hf => ?_)
        · refine g_sub Γ [0, 1, 2, 3] rfl ?_
          exact K_86_127 m12 (kX1 m12 (Option.some.inj hf).symm)
        · refine g_aload_n Γ (pc := 102) 0 dX3_next_102 rfl rfl ?_
          refine g_aload_n Γ (pc := 103) 0 dX3_next_103 rfl rfl ?_
          refine g_get Γ (pc := 104) (v := .int (m12 38 4)) dX3_next_104 (C_reader hC) fr_X3_25 rfl ?_
          obtain ⟨v13, h1, hf⟩ := bn1_i hf
          refine g_callVI Γ (pc := 107) (as := [.int (m12 38 4)]) (st := []) dX3_next_107 (c_X3_sortAt hC h1) (C_reader hC) rfl mi_X3_sortAt mv_X3_sortAt kM_X3_52 rfl ⟨Nat.le_of_ble_eq_true rfl, Nat.le_of_ble_eq_true rfl⟩ rfl (Nat.le_of_ble_eq_true rfl) ?_
          refine g_iload_n Γ (pc := 110) 3 dX3_next_110 rfl rfl ?_
          refine g_icmp_ne Γ (pc := 111) (tgt := 127) dX3_next_111 rfl hf (fun hf => ?_) (fun hf => ?_)
          · refine g_sub Γ [0, 1, 2, 3] rfl ?_
            exact K_86_127 m12 (kX1 m12 (Option.some.inj hf).symm)
          · refine g_aload_n Γ (pc := 114) 0 dX3_next_114 rfl rfl ?_
            refine g_dup Γ (pc := 115) dX3_next_115 rfl ?_
            refine g_get Γ (pc := 116) (v := .int (m12 38 4)) dX3_next_116 (C_reader hC) fr_X3_25 rfl ?_
            refine g_iconst Γ (pc := 119) (v := 1) dX3_next_119 rfl ?_
            refine g_iadd Γ (pc := 120) dX3_next_120 ?_
            refine g_put Γ (pc := 121) dX3_next_121 (C_reader hC) fw_X3_25 (Nat.le_of_ble_eq_true rfl) rfl ?_
            refine g_nmm hf (fun m14 hf => ?_)
            refine g_goto Γ (pc := 124) (tgt := 86) dX3_next_124 rfl ?_
            refine g_sub Γ [0, 1, 2, 3] rfl ?_
            exact kI1 m14 (Option.some.inj hf).symm
    refine g_if_ne Γ (pc := 67) (tgt := 77) dX3_next_67 rfl hf (fun hf => ?_) (fun hf => ?_)
    · refine g_aload_n Γ (pc := 77) 1 dX3_next_77 rfl rfl ?_
      refine g_get Γ (pc := 78) (v := .int (m3 38 3)) dX3_next_78 (C_reader hC) fr_X3_22 rfl ?_
      refine g_iconst Γ (pc := 81) (v := 1) dX3_next_81 rfl ?_
      refine g_iadd Γ (pc := 82) dX3_next_82 ?_
      refine g_sub Γ [1, 2, 3, 0] rfl ?_
      exact J_83 ((m3 38 3) + 1) hf
    · refine g_aload_n Γ (pc := 70) 1 dX3_next_70 rfl rfl ?_
      refine g_get Γ (pc := 71) (v := .int (m3 38 3)) dX3_next_71 (C_reader hC) fr_X3_22 rfl ?_
      refine g_goto Γ (pc := 74) (tgt := 83) dX3_next_74 rfl ?_
      refine g_sub Γ [1, 2, 3, 0] rfl ?_
      exact J_83 (m3 38 3) hf
  refine g_sub Γ [2, 1, 0] rfl ?_
  refine lpF_s (P := fun (v : Mem) => G 18 [(0, .ref (sq Y 38)), (1, .int (μ 38 4)), (2, .int v1)] [] v) hf (fun v z1 hf kI1 kX1 => ?_)
  obtain ⟨m15, rfl⟩ : ∃ w, w = v := ⟨v, rfl⟩
  replace hf : f_X3_next_L18 m15 = some z1 := hf
  show G 18 [(0, .ref (sq Y 38)), (1, .int (μ 38 4)), (2, .int v1)] [] m15
  unfold f_X3_next_L18 at hf
  refine g_aload_n Γ (pc := 18) 0 dX3_next_18 rfl rfl ?_
  refine g_get Γ (pc := 19) (v := .int (m15 38 3)) dX3_next_19 (C_reader hC) fr_X3_22 rfl ?_
  refine g_aload_n Γ (pc := 22) 0 dX3_next_22 rfl rfl ?_
  refine g_get Γ (pc := 23) (v := .int (m15 38 2)) dX3_next_23 (C_reader hC) fr_X3_18 rfl ?_
  refine g_icmp_ge Γ (pc := 26) (tgt := 56) dX3_next_26 rfl hf (fun hf => ?_) (fun hf => ?_)
  · refine g_sub Γ [0, 1, 2] rfl ?_
    exact K_18_56 m15 (kX1 m15 (Option.some.inj hf).symm)
  · refine g_aload_n Γ (pc := 29) 0 dX3_next_29 rfl rfl ?_
    refine g_get Γ (pc := 30) (v := .ref (sq Y 39)) dX3_next_30 (C_reader hC) fr_X3_9 rfl ?_
    refine g_aload_n Γ (pc := 33) 0 dX3_next_33 rfl rfl ?_
    refine g_get Γ (pc := 34) (v := .int (m15 38 3)) dX3_next_34 (C_reader hC) fr_X3_22 rfl ?_
    refine g_iald Γ (pc := 37) dX3_next_37 (C_39 hC) hf (fun v16 hf => ?_)
    refine g_bipush Γ (pc := 38) (v := 32) dX3_next_38 rfl ?_
    refine g_icmp_ne Γ (pc := 40) (tgt := 56) dX3_next_40 rfl hf (fun hf => ?_) (fun hf => ?_)
    · refine g_sub Γ [0, 1, 2] rfl ?_
      exact K_18_56 m15 (kX1 m15 (Option.some.inj hf).symm)
    · refine g_aload_n Γ (pc := 43) 0 dX3_next_43 rfl rfl ?_
      refine g_dup Γ (pc := 44) dX3_next_44 rfl ?_
      refine g_get Γ (pc := 45) (v := .int (m15 38 3)) dX3_next_45 (C_reader hC) fr_X3_22 rfl ?_
      refine g_iconst Γ (pc := 48) (v := 1) dX3_next_48 rfl ?_
      refine g_iadd Γ (pc := 49) dX3_next_49 ?_
      refine g_put Γ (pc := 50) dX3_next_50 (C_reader hC) fw_X3_22 (Nat.le_of_ble_eq_true rfl) rfl ?_
      refine g_nmm hf (fun m17 hf => ?_)
      refine g_goto Γ (pc := 53) (tgt := 18) dX3_next_53 rfl ?_
      refine g_sub Γ [0, 1, 2] rfl ?_
      exact kI1 m17 (Option.some.inj hf).symm
def f_X3_isHere_K20_61  : Option (Int32) :=
  some 0
def f_X3_isHere_K20_69  : Option (Int32) :=
  some 1
def f_X3_isHere_L20 (s0 : Nat) (μ : Mem) (x2_1 : Int32) : Option (Int32 ⊕ (Unit ⊕ Unit)) :=
  if (nI (strLen.getD s0 0)) ≤ x2_1 then
    some (.inr (.inr ()))
  else
    if 96 ≤ ((μ 38 3) + x2_1) then
      some (.inr (.inr ()))
    else
      bn1 (ldM (μ 39) 96 ((μ 38 3) + x2_1)) fun v2 =>
      bn1 (chM s0 x2_1) fun v3 =>
      if v2 = v3 then
        some (.inl (x2_1 + 1))
      else
        some (.inr (.inl ()))
def f_X3_isHere (s0 : Nat) (μ : Mem) : Option (Int32) :=
  if ((μ 38 4) - (μ 38 3)) = (nI (strLen.getD s0 0)) then
    bn1 (lpF (fun v => f_X3_isHere_L20 s0 μ v) 4000 0) (fun x => cs2 x (fun y => f_X3_isHere_K20_61) (fun x0 => f_X3_isHere_K20_69))
  else
    some 0
set_option maxRecDepth 100000 in
set_option maxHeartbeats 4000000 in
theorem c_X3_isHere {Y : SYS} (hC : IsC Y) (hY : HasX Y) {s0 : Nat} {μ : Mem} {x : Int32} (hs0 : s0 < 11) (hf : f_X3_isHere s0 μ = some x) : KC Y yX3_isHere cX3_isHere 3 (some .boolean) 4 [.ref (sq Y 38), .ref (sK Y s0)] μ (some (.int x)) μ := by
  refine KC.Z RX3 [(0, .ref (sq Y 38)), (1, .ref (sK Y s0))] (by decide) rfl (Nat.le_of_ble_eq_true rfl) rfl (fun G Γ ret => ?_)
  unfold f_X3_isHere at hf
  refine g_aload_n Γ (pc := 0) 0 dX3_isHere_0 rfl rfl ?_
  refine g_get Γ (pc := 1) (v := .int (μ 38 4)) dX3_isHere_1 (C_reader hC) fr_X3_25 rfl ?_
  refine g_aload_n Γ (pc := 4) 0 dX3_isHere_4 rfl rfl ?_
  refine g_get Γ (pc := 5) (v := .int (μ 38 3)) dX3_isHere_5 (C_reader hC) fr_X3_22 rfl ?_
  refine g_isub Γ (pc := 8) dX3_isHere_8 ?_
  refine g_aload_n Γ (pc := 9) 1 dX3_isHere_9 rfl rfl ?_
  refine g_callT Γ (pc := 10) (as := []) (st := [.int ((μ 38 4) - (μ 38 3))]) dX3_isHere_10 (c_J0_len hY hs0) hY hs0 rfl mi_J0_length_8abf5 mv_J0_length_8abf5 kM_X3_66 rfl ⟨Nat.le_of_ble_eq_true rfl, Nat.le_of_ble_eq_true rfl⟩ rfl (Nat.le_of_ble_eq_true rfl) ?_
  refine g_icmp_eq Γ (pc := 13) (tgt := 18) dX3_isHere_13 rfl hf (fun hf => ?_) (fun hf => ?_)
  · refine g_iconst Γ (pc := 18) (v := 0) dX3_isHere_18 rfl ?_
    refine g_istore_n Γ (pc := 19) (lv' := [(2, .int 0), (0, .ref (sq Y 38)), (1, .ref (sK Y s0))]) dX3_isHere_19 rfl (by decide) rfl ?_
    have K_20_61 : f_X3_isHere_K20_61 = some x → G 61 [] [] μ := by
      intro hf
      unfold f_X3_isHere_K20_61 at hf
      refine g_iconst Γ (pc := 61) (v := 0) dX3_isHere_61 rfl ?_
      exact rZkr ret dX3_isHere_62 (Or.inl rfl) hf
    have K_20_69 : f_X3_isHere_K20_69 = some x → G 69 [] [] μ := by
      intro hf
      unfold f_X3_isHere_K20_69 at hf
      refine g_iconst Γ (pc := 69) (v := 1) dX3_isHere_69 rfl ?_
      exact rZkr ret dX3_isHere_70 (Or.inr rfl) hf
    refine g_sub Γ [1, 2, 0] rfl ?_
    refine lpF_s (P := fun (v : Int32) => G 20 [(0, .ref (sq Y 38)), (1, .ref (sK Y s0)), (2, .int v)] [] μ) hf (fun v z1 hf kI1 kX1 => ?_)
    obtain ⟨x2_1, rfl⟩ : ∃ w, w = v := ⟨v, rfl⟩
    replace hf : f_X3_isHere_L20 s0 μ x2_1 = some z1 := hf
    show G 20 [(0, .ref (sq Y 38)), (1, .ref (sK Y s0)), (2, .int x2_1)] [] μ
    unfold f_X3_isHere_L20 at hf
    refine g_iload_n Γ (pc := 20) 2 dX3_isHere_20 rfl rfl ?_
    refine g_aload_n Γ (pc := 21) 1 dX3_isHere_21 rfl rfl ?_
    refine g_callT Γ (pc := 22) (as := []) (st := [.int x2_1]) dX3_isHere_22 (c_J0_len hY hs0) hY hs0 rfl mi_J0_length_8abf5 mv_J0_length_8abf5 kM_X3_66 rfl ⟨Nat.le_of_ble_eq_true rfl, Nat.le_of_ble_eq_true rfl⟩ rfl (Nat.le_of_ble_eq_true rfl) ?_
    refine g_icmp_ge Γ (pc := 25) (tgt := 69) dX3_isHere_25 rfl hf (fun hf => ?_) (fun hf => ?_)
    · refine g_sub Γ [] rfl ?_
      exact K_20_69  (kX1 (.inr ()) (Option.some.inj hf).symm)
    · refine g_aload_n Γ (pc := 28) 0 dX3_isHere_28 rfl rfl ?_
      refine g_get Γ (pc := 29) (v := .int (μ 38 3)) dX3_isHere_29 (C_reader hC) fr_X3_22 rfl ?_
      refine g_iload_n Γ (pc := 32) 2 dX3_isHere_32 rfl rfl ?_
      refine g_iadd Γ (pc := 33) dX3_isHere_33 ?_
      refine g_aload_n Γ (pc := 34) 0 dX3_isHere_34 rfl rfl ?_
      refine g_get Γ (pc := 35) (v := .ref (sq Y 39)) dX3_isHere_35 (C_reader hC) fr_X3_9 rfl ?_
      refine g_alen Γ (pc := 38) (v := 96) dX3_isHere_38 (C_39 hC) rfl ?_
      refine g_icmp_ge Γ (pc := 39) (tgt := 69) dX3_isHere_39 rfl hf (fun hf => ?_) (fun hf => ?_)
      · refine g_sub Γ [] rfl ?_
        exact K_20_69  (kX1 (.inr ()) (Option.some.inj hf).symm)
      · refine g_aload_n Γ (pc := 42) 0 dX3_isHere_42 rfl rfl ?_
        refine g_get Γ (pc := 43) (v := .ref (sq Y 39)) dX3_isHere_43 (C_reader hC) fr_X3_9 rfl ?_
        refine g_aload_n Γ (pc := 46) 0 dX3_isHere_46 rfl rfl ?_
        refine g_get Γ (pc := 47) (v := .int (μ 38 3)) dX3_isHere_47 (C_reader hC) fr_X3_22 rfl ?_
        refine g_iload_n Γ (pc := 50) 2 dX3_isHere_50 rfl rfl ?_
        refine g_iadd Γ (pc := 51) dX3_isHere_51 ?_
        refine g_iald Γ (pc := 52) dX3_isHere_52 (C_39 hC) hf (fun v2 hf => ?_)
        refine g_aload_n Γ (pc := 53) 1 dX3_isHere_53 rfl rfl ?_
        refine g_iload_n Γ (pc := 54) 2 dX3_isHere_54 rfl rfl ?_
        obtain ⟨v3, h1, hf⟩ := bn1_i hf
        refine g_callT Γ (pc := 55) (as := [.int x2_1]) (st := [.int v2]) dX3_isHere_55 (c_chM hY hs0 h1) hY hs0 rfl mi_J0_charAt_5068e mv_J0_charAt_5068e kM_X3_70 rfl ⟨Nat.le_of_ble_eq_true rfl, Nat.le_of_ble_eq_true rfl⟩ rfl (Nat.le_of_ble_eq_true rfl) ?_
        refine g_icmp_eq Γ (pc := 58) (tgt := 63) dX3_isHere_58 rfl hf (fun hf => ?_) (fun hf => ?_)
        · refine g_iinc Γ (pc := 63) (v := x2_1 + 1) (lv' := [(2, .int (x2_1 + 1)), (0, .ref (sq Y 38)), (1, .ref (sK Y s0))]) 2 dX3_isHere_63 rfl rfl (by decide) rfl ?_
          refine g_goto Γ (pc := 66) (tgt := 20) dX3_isHere_66 rfl ?_
          refine g_sub Γ [1, 2, 0] rfl ?_
          exact kI1 (x2_1 + 1) (Option.some.inj hf).symm
        · refine g_sub Γ [] rfl ?_
          exact K_20_61  (kX1 (.inl ()) (Option.some.inj hf).symm)
  · refine g_iconst Γ (pc := 16) (v := 0) dX3_isHere_16 rfl ?_
    exact rZkr ret dX3_isHere_17 (Or.inl rfl) hf
def f_X3_keyHere (μ : Mem) : Option (Int32) :=
  bn1 (f_X3_isHere 0 μ) fun v1 =>
  if v1 = 0 then
    bn1 (f_X3_isHere 1 μ) fun v2 =>
    if v2 = 0 then
      bn1 (f_X3_isHere 2 μ) fun v3 =>
      if v3 = 0 then
        some (-1)
      else
        some 2
    else
      some 1
  else
    some 0
set_option maxRecDepth 100000 in
set_option maxHeartbeats 4000000 in
theorem c_X3_keyHere {Y : SYS} (hC : IsC Y) (hY : HasX Y) {μ : Mem} {x : Int32} (hf : f_X3_keyHere μ = some x) : KC Y yX3_keyHere cX3_keyHere 1 (some .int) 5 [.ref (sq Y 38)] μ (some (.int x)) μ := by
  refine KC.I RX3 [(0, .ref (sq Y 38))] (by decide) rfl (Nat.le_of_ble_eq_true rfl) rfl (fun G Γ ret => ?_)
  unfold f_X3_keyHere at hf
  refine g_aload_n Γ (pc := 0) 0 dX3_keyHere_0 rfl rfl ?_
  refine g_ldcS Γ (pc := 1) dX3_keyHere_1 hY 0 (by decide) rfl ?_
  obtain ⟨v1, h1, hf⟩ := bn1_i hf
  refine g_callVI Γ (pc := 3) (as := [.ref (sK Y 0)]) (st := []) dX3_keyHere_3 (c_X3_isHere hC hY (by decide) h1) (C_reader hC) rfl mi_X3_isHere mv_X3_isHere kM_X3_58 rfl ⟨Nat.le_of_ble_eq_true rfl, Nat.le_of_ble_eq_true rfl⟩ rfl (Nat.le_of_ble_eq_true rfl) ?_
  refine g_if_eq Γ (pc := 6) (tgt := 11) dX3_keyHere_6 rfl hf (fun hf => ?_) (fun hf => ?_)
  · refine g_aload_n Γ (pc := 11) 0 dX3_keyHere_11 rfl rfl ?_
    refine g_ldcS Γ (pc := 12) dX3_keyHere_12 hY 1 (by decide) rfl ?_
    obtain ⟨v2, h1, hf⟩ := bn1_i hf
    refine g_callVI Γ (pc := 14) (as := [.ref (sK Y 1)]) (st := []) dX3_keyHere_14 (c_X3_isHere hC hY (by decide) h1) (C_reader hC) rfl mi_X3_isHere mv_X3_isHere kM_X3_58 rfl ⟨Nat.le_of_ble_eq_true rfl, Nat.le_of_ble_eq_true rfl⟩ rfl (Nat.le_of_ble_eq_true rfl) ?_
    refine g_if_eq Γ (pc := 17) (tgt := 22) dX3_keyHere_17 rfl hf (fun hf => ?_) (fun hf => ?_)
    · refine g_aload_n Γ (pc := 22) 0 dX3_keyHere_22 rfl rfl ?_
      refine g_ldcS Γ (pc := 23) dX3_keyHere_23 hY 2 (by decide) rfl ?_
      obtain ⟨v3, h1, hf⟩ := bn1_i hf
      refine g_callVI Γ (pc := 25) (as := [.ref (sK Y 2)]) (st := []) dX3_keyHere_25 (c_X3_isHere hC hY (by decide) h1) (C_reader hC) rfl mi_X3_isHere mv_X3_isHere kM_X3_58 rfl ⟨Nat.le_of_ble_eq_true rfl, Nat.le_of_ble_eq_true rfl⟩ rfl (Nat.le_of_ble_eq_true rfl) ?_
      refine g_if_eq Γ (pc := 28) (tgt := 35) dX3_keyHere_28 rfl hf (fun hf => ?_) (fun hf => ?_)
      · refine g_iconst Γ (pc := 35) (v := (-1)) dX3_keyHere_35 rfl ?_
        exact rIr ret dX3_keyHere_36 hf
      · refine g_iconst Γ (pc := 31) (v := 2) dX3_keyHere_31 rfl ?_
        refine g_goto Γ (pc := 32) (tgt := 36) dX3_keyHere_32 rfl ?_
        exact rIr ret dX3_keyHere_36 hf
    · refine g_iconst Γ (pc := 20) (v := 1) dX3_keyHere_20 rfl ?_
      exact rIr ret dX3_keyHere_21 hf
  · refine g_iconst Γ (pc := 9) (v := 0) dX3_keyHere_9 rfl ?_
    exact rIr ret dX3_keyHere_10 hf
def f_X3_put (a0 : Int32) (μ : Mem) : Option (Mem) :=
  if 96 ≤ (μ 38 8) then
    some μ
  else
    bn1 (stM μ 40 96 (μ 38 8) a0) fun m1 =>
    nm (mset m1 38 8 ((m1 38 8) + 1)) fun m2 =>
    some m2
set_option maxRecDepth 100000 in
set_option maxHeartbeats 4000000 in
theorem c_X3_put {Y : SYS} (hC : IsC Y) {a0 : Int32} {μ : Mem} {m : Mem} (hf : f_X3_put a0 μ = some m) : KC Y yX3_put cX3_put 2 none 0 [.ref (sq Y 38), .int a0] μ none m := by
  refine KC.V RX3 [(0, .ref (sq Y 38)), (1, .int a0)] (by decide) rfl (Nat.le_of_ble_eq_true rfl) rfl (fun G Γ ret => ?_)
  unfold f_X3_put at hf
  refine g_aload_n Γ (pc := 0) 0 dX3_put_0 rfl rfl ?_
  refine g_get Γ (pc := 1) (v := .int (μ 38 8)) dX3_put_1 (C_reader hC) fr_X3_38 rfl ?_
  refine g_aload_n Γ (pc := 4) 0 dX3_put_4 rfl rfl ?_
  refine g_get Γ (pc := 5) (v := .ref (sq Y 40)) dX3_put_5 (C_reader hC) fr_X3_15 rfl ?_
  refine g_alen Γ (pc := 8) (v := 96) dX3_put_8 (C_40 hC) rfl ?_
  refine g_icmp_ge Γ (pc := 9) (tgt := 32) dX3_put_9 rfl hf (fun hf => ?_) (fun hf => ?_)
  · exact rV ret dX3_put_32 hf
  · refine g_aload_n Γ (pc := 12) 0 dX3_put_12 rfl rfl ?_
    refine g_get Γ (pc := 13) (v := .ref (sq Y 40)) dX3_put_13 (C_reader hC) fr_X3_15 rfl ?_
    refine g_aload_n Γ (pc := 16) 0 dX3_put_16 rfl rfl ?_
    refine g_get Γ (pc := 17) (v := .int (μ 38 8)) dX3_put_17 (C_reader hC) fr_X3_38 rfl ?_
    refine g_iload_n Γ (pc := 20) 1 dX3_put_20 rfl rfl ?_
    refine g_iast Γ (pc := 21) dX3_put_21 (C_40 hC) hf (fun m1 hf => ?_)
    refine g_aload_n Γ (pc := 22) 0 dX3_put_22 rfl rfl ?_
    refine g_dup Γ (pc := 23) dX3_put_23 rfl ?_
    refine g_get Γ (pc := 24) (v := .int (m1 38 8)) dX3_put_24 (C_reader hC) fr_X3_38 rfl ?_
    refine g_iconst Γ (pc := 27) (v := 1) dX3_put_27 rfl ?_
    refine g_iadd Γ (pc := 28) dX3_put_28 ?_
    refine g_put Γ (pc := 29) dX3_put_29 (C_reader hC) fw_X3_38 (Nat.le_of_ble_eq_true rfl) rfl ?_
    refine g_nmm hf (fun m2 hf => ?_)
    exact rV ret dX3_put_32 hf
def f_X3_number_K22_51 (μ : Mem) (y1_1 : Int32) : Option (Int32 × Mem) :=
  bn1 (f_X3_put y1_1 μ) fun m2 =>
  nm (mset m2 38 7 ((m2 38 7) + 1)) fun m3 =>
  bn1 (f_X3_next m3) fun m4 =>
  some (1, m4)
def f_X3_number_L22 (μ : Mem) (x1_5 : Int32) (x2_6 : Int32) : Option ((Int32 × Int32) ⊕ Int32) :=
  if (μ 38 4) ≤ x2_6 then
    some (.inr x1_5)
  else
    bn1 (ldM (μ 39) 96 x2_6) fun v7 =>
    some (.inl ((((10 * x1_5) + v7) - 48), x2_6 + 1))
def f_X3_number (μ : Mem) : Option (Int32 × Mem) :=
  if ((μ 38 4) - (μ 38 3)) ≤ 4 then
    bn1 (lpF (fun v => f_X3_number_L22 μ v.1 v.2) 4000 (0, (μ 38 3))) (fun x => f_X3_number_K22_51 μ x)
  else
    some (0, μ)
set_option maxRecDepth 100000 in
set_option maxHeartbeats 4000000 in
theorem c_X3_number {Y : SYS} (hC : IsC Y) {μ : Mem} {x : Int32} {m : Mem} (hf : f_X3_number μ = some (x, m)) : KC Y yX3_number cX3_number 3 (some .boolean) 2 [.ref (sq Y 38)] μ (some (.int x)) m := by
  refine KC.Z RX3 [(0, .ref (sq Y 38))] (by decide) rfl (Nat.le_of_ble_eq_true rfl) rfl (fun G Γ ret => ?_)
  unfold f_X3_number at hf
  refine g_aload_n Γ (pc := 0) 0 dX3_number_0 rfl rfl ?_
  refine g_get Γ (pc := 1) (v := .int (μ 38 4)) dX3_number_1 (C_reader hC) fr_X3_25 rfl ?_
  refine g_aload_n Γ (pc := 4) 0 dX3_number_4 rfl rfl ?_
  refine g_get Γ (pc := 5) (v := .int (μ 38 3)) dX3_number_5 (C_reader hC) fr_X3_22 rfl ?_
  refine g_isub Γ (pc := 8) dX3_number_8 ?_
  refine g_iconst Γ (pc := 9) (v := 4) dX3_number_9 rfl ?_
  refine g_icmp_le Γ (pc := 10) (tgt := 15) dX3_number_10 rfl hf (fun hf => ?_) (fun hf => ?_)
  · refine g_iconst Γ (pc := 15) (v := 0) dX3_number_15 rfl ?_
    refine g_istore_n Γ (pc := 16) (lv' := [(1, .int 0), (0, .ref (sq Y 38))]) dX3_number_16 rfl (by decide) rfl ?_
    refine g_aload_n Γ (pc := 17) 1 dX3_number_17 rfl rfl ?_
    refine g_get Γ (pc := 18) (v := .int (μ 38 3)) dX3_number_18 (C_reader hC) fr_X3_22 rfl ?_
    refine g_istore_n Γ (pc := 21) (lv' := [(2, .int (μ 38 3)), (1, .int 0), (0, .ref (sq Y 38))]) dX3_number_21 rfl (by decide) rfl ?_
    have K_22_51 : ∀ (y1_1 : Int32), f_X3_number_K22_51 μ y1_1 = some (x, m) → G 51 [(0, .ref (sq Y 38)), (1, .int y1_1)] [] μ := by
      intro y1_1 hf
      unfold f_X3_number_K22_51 at hf
      refine g_aload_n Γ (pc := 51) 0 dX3_number_51 rfl rfl ?_
      refine g_iload_n Γ (pc := 52) 1 dX3_number_52 rfl rfl ?_
      obtain ⟨m2, h1, hf⟩ := bn1_i hf
      refine g_callVV Γ (pc := 53) (as := [.int y1_1]) (st := []) dX3_number_53 (c_X3_put hC h1) (C_reader hC) rfl mi_X3_put mv_X3_put kM_X3_98 rfl ⟨Nat.le_of_ble_eq_true rfl, Nat.le_of_ble_eq_true rfl⟩ rfl (Nat.le_of_ble_eq_true rfl) ?_
      refine g_aload_n Γ (pc := 56) 0 dX3_number_56 rfl rfl ?_
      refine g_dup Γ (pc := 57) dX3_number_57 rfl ?_
      refine g_get Γ (pc := 58) (v := .int (m2 38 7)) dX3_number_58 (C_reader hC) fr_X3_35 rfl ?_
      refine g_iconst Γ (pc := 61) (v := 1) dX3_number_61 rfl ?_
      refine g_iadd Γ (pc := 62) dX3_number_62 ?_
      refine g_put Γ (pc := 63) dX3_number_63 (C_reader hC) fw_X3_35 (Nat.le_of_ble_eq_true rfl) rfl ?_
      refine g_nmm hf (fun m3 hf => ?_)
      refine g_aload_n Γ (pc := 66) 0 dX3_number_66 rfl rfl ?_
      obtain ⟨m4, h1, hf⟩ := bn1_i hf
      refine g_callVV Γ (pc := 67) (as := []) (st := []) dX3_number_67 (c_X3_next hC h1) (C_reader hC) rfl mi_X3_next mv_X3_next kM_X3_41 rfl ⟨Nat.le_of_ble_eq_true rfl, Nat.le_of_ble_eq_true rfl⟩ rfl (Nat.le_of_ble_eq_true rfl) ?_
      refine g_iconst Γ (pc := 70) (v := 1) dX3_number_70 rfl ?_
      exact rZk ret dX3_number_71 (Or.inr rfl) hf
    refine g_sub Γ [2, 1, 0] rfl ?_
    refine lpF_s (P := fun (v : Int32 × Int32) => G 22 [(0, .ref (sq Y 38)), (1, .int v.1), (2, .int v.2)] [] μ) hf (fun v z1 hf kI1 kX1 => ?_)
    obtain ⟨x1_5, x2_6⟩ := v
    replace hf : f_X3_number_L22 μ x1_5 x2_6 = some z1 := hf
    show G 22 [(0, .ref (sq Y 38)), (1, .int x1_5), (2, .int x2_6)] [] μ
    unfold f_X3_number_L22 at hf
    refine g_iload_n Γ (pc := 22) 2 dX3_number_22 rfl rfl ?_
    refine g_aload_n Γ (pc := 23) 0 dX3_number_23 rfl rfl ?_
    refine g_get Γ (pc := 24) (v := .int (μ 38 4)) dX3_number_24 (C_reader hC) fr_X3_25 rfl ?_
    refine g_icmp_ge Γ (pc := 27) (tgt := 51) dX3_number_27 rfl hf (fun hf => ?_) (fun hf => ?_)
    · refine g_sub Γ [0, 1] rfl ?_
      exact K_22_51 x1_5 (kX1 x1_5 (Option.some.inj hf).symm)
    · refine g_bipush Γ (pc := 30) (v := 10) dX3_number_30 rfl ?_
      refine g_iload_n Γ (pc := 32) 1 dX3_number_32 rfl rfl ?_
      refine g_imul Γ (pc := 33) dX3_number_33 ?_
      refine g_aload_n Γ (pc := 34) 0 dX3_number_34 rfl rfl ?_
      refine g_get Γ (pc := 35) (v := .ref (sq Y 39)) dX3_number_35 (C_reader hC) fr_X3_9 rfl ?_
      refine g_iload_n Γ (pc := 38) 2 dX3_number_38 rfl rfl ?_
      refine g_iald Γ (pc := 39) dX3_number_39 (C_39 hC) hf (fun v7 hf => ?_)
      refine g_iadd Γ (pc := 40) dX3_number_40 ?_
      refine g_bipush Γ (pc := 41) (v := 48) dX3_number_41 rfl ?_
      refine g_isub Γ (pc := 43) dX3_number_43 ?_
      refine g_istore_n Γ (pc := 44) (lv' := [(1, .int (((10 * x1_5) + v7) - 48)), (0, .ref (sq Y 38)), (2, .int x2_6)]) dX3_number_44 rfl (by decide) rfl ?_
      refine g_iinc Γ (pc := 45) (v := x2_6 + 1) (lv' := [(2, .int (x2_6 + 1)), (1, .int (((10 * x1_5) + v7) - 48)), (0, .ref (sq Y 38))]) 2 dX3_number_45 rfl rfl (by decide) rfl ?_
      refine g_goto Γ (pc := 48) (tgt := 22) dX3_number_48 rfl ?_
      refine g_sub Γ [2, 1, 0] rfl ?_
      exact kI1 ((((10 * x1_5) + v7) - 48), x2_6 + 1) (Option.some.inj hf).symm
  · refine g_iconst Γ (pc := 13) (v := 0) dX3_number_13 rfl ?_
    exact rZk ret dX3_number_14 (Or.inl rfl) hf
def f_X3_name (μ : Mem) : Option (Int32 × Mem) :=
  if (μ 38 6) = 0 then
    if ((μ 38 4) - (μ 38 3)) = 1 then
      bn1 (ldM (μ 39) 96 (μ 38 3)) fun v11 =>
      nm (sIx 3 ((v11.toUInt32 % 65536).toInt32)) fun e12 =>
      if 0 ≤ e12 then
        bn1 (f_X3_put ((-1) - e12) μ) fun m13 =>
        nm (mset m13 38 7 ((m13 38 7) + 1)) fun m14 =>
        bn1 (f_X3_next m14) fun m15 =>
        some (1, m15)
      else
        some (0, μ)
    else
      some (0, μ)
  else
    if (μ 38 6) = 1 then
      if ((μ 38 4) - (μ 38 3)) = 1 then
        bn1 (ldM (μ 39) 96 (μ 38 3)) fun v6 =>
        nm (sIx 4 ((v6.toUInt32 % 65536).toInt32)) fun e7 =>
        if 0 ≤ e7 then
          bn1 (f_X3_put ((-1) - e7) μ) fun m8 =>
          nm (mset m8 38 7 ((m8 38 7) + 1)) fun m9 =>
          bn1 (f_X3_next m9) fun m10 =>
          some (1, m10)
        else
          some (0, μ)
      else
        some (0, μ)
    else
      if ((μ 38 4) - (μ 38 3)) = 1 then
        bn1 (ldM (μ 39) 96 (μ 38 3)) fun v1 =>
        nm (sIx 5 ((v1.toUInt32 % 65536).toInt32)) fun e2 =>
        if 0 ≤ e2 then
          bn1 (f_X3_put ((-1) - e2) μ) fun m3 =>
          nm (mset m3 38 7 ((m3 38 7) + 1)) fun m4 =>
          bn1 (f_X3_next m4) fun m5 =>
          some (1, m5)
        else
          some (0, μ)
      else
        some (0, μ)
set_option maxRecDepth 100000 in
set_option maxHeartbeats 4000000 in
theorem c_X3_name {Y : SYS} (hC : IsC Y) (hY : HasX Y) {μ : Mem} {x : Int32} {m : Mem} (hf : f_X3_name μ = some (x, m)) : KC Y yX3_name cX3_name 3 (some .boolean) 4 [.ref (sq Y 38)] μ (some (.int x)) m := by
  refine KC.Z RX3 [(0, .ref (sq Y 38))] (by decide) rfl (Nat.le_of_ble_eq_true rfl) rfl (fun G Γ ret => ?_)
  unfold f_X3_name at hf
  refine g_aload_n Γ (pc := 0) 0 dX3_name_0 rfl rfl ?_
  refine g_get Γ (pc := 1) (v := .int (μ 38 6)) dX3_name_1 (C_reader hC) fr_X3_32 rfl ?_
  refine g_if_ne Γ (pc := 4) (tgt := 12) dX3_name_4 rfl hf (fun hf => ?_) (fun hf => ?_)
  · refine g_aload_n Γ (pc := 12) 0 dX3_name_12 rfl rfl ?_
    refine g_get Γ (pc := 13) (v := .int (μ 38 6)) dX3_name_13 (C_reader hC) fr_X3_32 rfl ?_
    refine g_iconst Γ (pc := 16) (v := 1) dX3_name_16 rfl ?_
    refine g_icmp_ne Γ (pc := 17) (tgt := 25) dX3_name_17 rfl hf (fun hf => ?_) (fun hf => ?_)
    · refine g_ldcS Γ (pc := 25) dX3_name_25 hY 5 (by decide) rfl ?_
      refine g_astore_n Γ (pc := 27) (lv' := [(1, .ref (sK Y 5)), (0, .ref (sq Y 38))]) dX3_name_27 rfl (by decide) rfl ?_
      refine g_aload_n Γ (pc := 28) 1 dX3_name_28 rfl rfl ?_
      refine g_get Γ (pc := 29) (v := .int (μ 38 4)) dX3_name_29 (C_reader hC) fr_X3_25 rfl ?_
      refine g_aload_n Γ (pc := 32) 1 dX3_name_32 rfl rfl ?_
      refine g_get Γ (pc := 33) (v := .int (μ 38 3)) dX3_name_33 (C_reader hC) fr_X3_22 rfl ?_
      refine g_isub Γ (pc := 36) dX3_name_36 ?_
      refine g_iconst Γ (pc := 37) (v := 1) dX3_name_37 rfl ?_
      refine g_icmp_ne Γ (pc := 38) (tgt := 58) dX3_name_38 rfl hf (fun hf => ?_) (fun hf => ?_)
      · refine g_iconst Γ (pc := 58) (v := (-1)) dX3_name_58 rfl ?_
        refine g_istore_n Γ (pc := 59) (lv' := [(2, .int (-1)), (1, .ref (sK Y 5)), (0, .ref (sq Y 38))]) dX3_name_59 rfl (by decide) rfl ?_
        refine g_iload_n Γ (pc := 60) 0 dX3_name_60 rfl rfl ?_
        refine g_if_ge_f Γ (pc := 61) (tgt := 66) dX3_name_61 rfl (by decide) ?_
        refine g_iconst Γ (pc := 64) (v := 0) dX3_name_64 rfl ?_
        exact rZk ret dX3_name_65 (Or.inl rfl) hf
      · refine g_aload_n Γ (pc := 41) 0 dX3_name_41 rfl rfl ?_
        refine g_aload_n Γ (pc := 42) 1 dX3_name_42 rfl rfl ?_
        refine g_get Γ (pc := 43) (v := .ref (sq Y 39)) dX3_name_43 (C_reader hC) fr_X3_9 rfl ?_
        refine g_aload_n Γ (pc := 46) 1 dX3_name_46 rfl rfl ?_
        refine g_get Γ (pc := 47) (v := .int (μ 38 3)) dX3_name_47 (C_reader hC) fr_X3_22 rfl ?_
        refine g_iald Γ (pc := 50) dX3_name_50 (C_39 hC) hf (fun v1 hf => ?_)
        refine g_i2c Γ (pc := 51) dX3_name_51 ?_
        refine g_callT Γ (pc := 52) (as := [.int ((v1.toUInt32 % 65536).toInt32)]) (st := []) dX3_name_52 (c_J0_ix hY (by decide)) hY (by decide) rfl mi_J0_indexOf_0f7a4 mv_J0_indexOf_0f7a4 kM_X3_78 rfl ⟨Nat.le_of_ble_eq_true rfl, Nat.le_of_ble_eq_true rfl⟩ rfl (Nat.le_of_ble_eq_true rfl) ?_
        refine g_goto Γ (pc := 55) (tgt := 59) dX3_name_55 rfl ?_
        refine g_nmi hf (fun e2 hf => ?_)
        refine g_istore_n Γ (pc := 59) (lv' := [(2, .int e2), (1, .ref (sK Y 5)), (0, .ref (sq Y 38))]) dX3_name_59 rfl (by decide) rfl ?_
        refine g_iload_n Γ (pc := 60) 0 dX3_name_60 rfl rfl ?_
        refine g_if_ge Γ (pc := 61) (tgt := 66) dX3_name_61 rfl hf (fun hf => ?_) (fun hf => ?_)
        · refine g_aload_n Γ (pc := 66) 2 dX3_name_66 rfl rfl ?_
          refine g_iconst Γ (pc := 67) (v := (-1)) dX3_name_67 rfl ?_
          refine g_iload_n Γ (pc := 68) 0 dX3_name_68 rfl rfl ?_
          refine g_isub Γ (pc := 69) dX3_name_69 ?_
          obtain ⟨m3, h1, hf⟩ := bn1_i hf
          refine g_callVV Γ (pc := 70) (as := [.int ((-1) - e2)]) (st := []) dX3_name_70 (c_X3_put hC h1) (C_reader hC) rfl mi_X3_put mv_X3_put kM_X3_98 rfl ⟨Nat.le_of_ble_eq_true rfl, Nat.le_of_ble_eq_true rfl⟩ rfl (Nat.le_of_ble_eq_true rfl) ?_
          refine g_aload_n Γ (pc := 73) 2 dX3_name_73 rfl rfl ?_
          refine g_dup Γ (pc := 74) dX3_name_74 rfl ?_
          refine g_get Γ (pc := 75) (v := .int (m3 38 7)) dX3_name_75 (C_reader hC) fr_X3_35 rfl ?_
          refine g_iconst Γ (pc := 78) (v := 1) dX3_name_78 rfl ?_
          refine g_iadd Γ (pc := 79) dX3_name_79 ?_
          refine g_put Γ (pc := 80) dX3_name_80 (C_reader hC) fw_X3_35 (Nat.le_of_ble_eq_true rfl) rfl ?_
          refine g_nmm hf (fun m4 hf => ?_)
          refine g_aload_n Γ (pc := 83) 2 dX3_name_83 rfl rfl ?_
          obtain ⟨m5, h1, hf⟩ := bn1_i hf
          refine g_callVV Γ (pc := 84) (as := []) (st := []) dX3_name_84 (c_X3_next hC h1) (C_reader hC) rfl mi_X3_next mv_X3_next kM_X3_41 rfl ⟨Nat.le_of_ble_eq_true rfl, Nat.le_of_ble_eq_true rfl⟩ rfl (Nat.le_of_ble_eq_true rfl) ?_
          refine g_iconst Γ (pc := 87) (v := 1) dX3_name_87 rfl ?_
          exact rZk ret dX3_name_88 (Or.inr rfl) hf
        · refine g_iconst Γ (pc := 64) (v := 0) dX3_name_64 rfl ?_
          exact rZk ret dX3_name_65 (Or.inl rfl) hf
    · refine g_ldcS Γ (pc := 20) dX3_name_20 hY 4 (by decide) rfl ?_
      refine g_goto Γ (pc := 22) (tgt := 27) dX3_name_22 rfl ?_
      refine g_astore_n Γ (pc := 27) (lv' := [(1, .ref (sK Y 4)), (0, .ref (sq Y 38))]) dX3_name_27 rfl (by decide) rfl ?_
      refine g_aload_n Γ (pc := 28) 1 dX3_name_28 rfl rfl ?_
      refine g_get Γ (pc := 29) (v := .int (μ 38 4)) dX3_name_29 (C_reader hC) fr_X3_25 rfl ?_
      refine g_aload_n Γ (pc := 32) 1 dX3_name_32 rfl rfl ?_
      refine g_get Γ (pc := 33) (v := .int (μ 38 3)) dX3_name_33 (C_reader hC) fr_X3_22 rfl ?_
      refine g_isub Γ (pc := 36) dX3_name_36 ?_
      refine g_iconst Γ (pc := 37) (v := 1) dX3_name_37 rfl ?_
      refine g_icmp_ne Γ (pc := 38) (tgt := 58) dX3_name_38 rfl hf (fun hf => ?_) (fun hf => ?_)
      · refine g_iconst Γ (pc := 58) (v := (-1)) dX3_name_58 rfl ?_
        refine g_istore_n Γ (pc := 59) (lv' := [(2, .int (-1)), (1, .ref (sK Y 4)), (0, .ref (sq Y 38))]) dX3_name_59 rfl (by decide) rfl ?_
        refine g_iload_n Γ (pc := 60) 0 dX3_name_60 rfl rfl ?_
        refine g_if_ge_f Γ (pc := 61) (tgt := 66) dX3_name_61 rfl (by decide) ?_
        refine g_iconst Γ (pc := 64) (v := 0) dX3_name_64 rfl ?_
        exact rZk ret dX3_name_65 (Or.inl rfl) hf
      · refine g_aload_n Γ (pc := 41) 0 dX3_name_41 rfl rfl ?_
        refine g_aload_n Γ (pc := 42) 1 dX3_name_42 rfl rfl ?_
        refine g_get Γ (pc := 43) (v := .ref (sq Y 39)) dX3_name_43 (C_reader hC) fr_X3_9 rfl ?_
        refine g_aload_n Γ (pc := 46) 1 dX3_name_46 rfl rfl ?_
        refine g_get Γ (pc := 47) (v := .int (μ 38 3)) dX3_name_47 (C_reader hC) fr_X3_22 rfl ?_
        refine g_iald Γ (pc := 50) dX3_name_50 (C_39 hC) hf (fun v6 hf => ?_)
        refine g_i2c Γ (pc := 51) dX3_name_51 ?_
        refine g_callT Γ (pc := 52) (as := [.int ((v6.toUInt32 % 65536).toInt32)]) (st := []) dX3_name_52 (c_J0_ix hY (by decide)) hY (by decide) rfl mi_J0_indexOf_0f7a4 mv_J0_indexOf_0f7a4 kM_X3_78 rfl ⟨Nat.le_of_ble_eq_true rfl, Nat.le_of_ble_eq_true rfl⟩ rfl (Nat.le_of_ble_eq_true rfl) ?_
        refine g_goto Γ (pc := 55) (tgt := 59) dX3_name_55 rfl ?_
        refine g_nmi hf (fun e7 hf => ?_)
        refine g_istore_n Γ (pc := 59) (lv' := [(2, .int e7), (1, .ref (sK Y 4)), (0, .ref (sq Y 38))]) dX3_name_59 rfl (by decide) rfl ?_
        refine g_iload_n Γ (pc := 60) 0 dX3_name_60 rfl rfl ?_
        refine g_if_ge Γ (pc := 61) (tgt := 66) dX3_name_61 rfl hf (fun hf => ?_) (fun hf => ?_)
        · refine g_aload_n Γ (pc := 66) 2 dX3_name_66 rfl rfl ?_
          refine g_iconst Γ (pc := 67) (v := (-1)) dX3_name_67 rfl ?_
          refine g_iload_n Γ (pc := 68) 0 dX3_name_68 rfl rfl ?_
          refine g_isub Γ (pc := 69) dX3_name_69 ?_
          obtain ⟨m8, h1, hf⟩ := bn1_i hf
          refine g_callVV Γ (pc := 70) (as := [.int ((-1) - e7)]) (st := []) dX3_name_70 (c_X3_put hC h1) (C_reader hC) rfl mi_X3_put mv_X3_put kM_X3_98 rfl ⟨Nat.le_of_ble_eq_true rfl, Nat.le_of_ble_eq_true rfl⟩ rfl (Nat.le_of_ble_eq_true rfl) ?_
          refine g_aload_n Γ (pc := 73) 2 dX3_name_73 rfl rfl ?_
          refine g_dup Γ (pc := 74) dX3_name_74 rfl ?_
          refine g_get Γ (pc := 75) (v := .int (m8 38 7)) dX3_name_75 (C_reader hC) fr_X3_35 rfl ?_
          refine g_iconst Γ (pc := 78) (v := 1) dX3_name_78 rfl ?_
          refine g_iadd Γ (pc := 79) dX3_name_79 ?_
          refine g_put Γ (pc := 80) dX3_name_80 (C_reader hC) fw_X3_35 (Nat.le_of_ble_eq_true rfl) rfl ?_
          refine g_nmm hf (fun m9 hf => ?_)
          refine g_aload_n Γ (pc := 83) 2 dX3_name_83 rfl rfl ?_
          obtain ⟨m10, h1, hf⟩ := bn1_i hf
          refine g_callVV Γ (pc := 84) (as := []) (st := []) dX3_name_84 (c_X3_next hC h1) (C_reader hC) rfl mi_X3_next mv_X3_next kM_X3_41 rfl ⟨Nat.le_of_ble_eq_true rfl, Nat.le_of_ble_eq_true rfl⟩ rfl (Nat.le_of_ble_eq_true rfl) ?_
          refine g_iconst Γ (pc := 87) (v := 1) dX3_name_87 rfl ?_
          exact rZk ret dX3_name_88 (Or.inr rfl) hf
        · refine g_iconst Γ (pc := 64) (v := 0) dX3_name_64 rfl ?_
          exact rZk ret dX3_name_65 (Or.inl rfl) hf
  · refine g_ldcS Γ (pc := 7) dX3_name_7 hY 3 (by decide) rfl ?_
    refine g_goto Γ (pc := 9) (tgt := 27) dX3_name_9 rfl ?_
    refine g_astore_n Γ (pc := 27) (lv' := [(1, .ref (sK Y 3)), (0, .ref (sq Y 38))]) dX3_name_27 rfl (by decide) rfl ?_
    refine g_aload_n Γ (pc := 28) 1 dX3_name_28 rfl rfl ?_
    refine g_get Γ (pc := 29) (v := .int (μ 38 4)) dX3_name_29 (C_reader hC) fr_X3_25 rfl ?_
    refine g_aload_n Γ (pc := 32) 1 dX3_name_32 rfl rfl ?_
    refine g_get Γ (pc := 33) (v := .int (μ 38 3)) dX3_name_33 (C_reader hC) fr_X3_22 rfl ?_
    refine g_isub Γ (pc := 36) dX3_name_36 ?_
    refine g_iconst Γ (pc := 37) (v := 1) dX3_name_37 rfl ?_
    refine g_icmp_ne Γ (pc := 38) (tgt := 58) dX3_name_38 rfl hf (fun hf => ?_) (fun hf => ?_)
    · refine g_iconst Γ (pc := 58) (v := (-1)) dX3_name_58 rfl ?_
      refine g_istore_n Γ (pc := 59) (lv' := [(2, .int (-1)), (1, .ref (sK Y 3)), (0, .ref (sq Y 38))]) dX3_name_59 rfl (by decide) rfl ?_
      refine g_iload_n Γ (pc := 60) 0 dX3_name_60 rfl rfl ?_
      refine g_if_ge_f Γ (pc := 61) (tgt := 66) dX3_name_61 rfl (by decide) ?_
      refine g_iconst Γ (pc := 64) (v := 0) dX3_name_64 rfl ?_
      exact rZk ret dX3_name_65 (Or.inl rfl) hf
    · refine g_aload_n Γ (pc := 41) 0 dX3_name_41 rfl rfl ?_
      refine g_aload_n Γ (pc := 42) 1 dX3_name_42 rfl rfl ?_
      refine g_get Γ (pc := 43) (v := .ref (sq Y 39)) dX3_name_43 (C_reader hC) fr_X3_9 rfl ?_
      refine g_aload_n Γ (pc := 46) 1 dX3_name_46 rfl rfl ?_
      refine g_get Γ (pc := 47) (v := .int (μ 38 3)) dX3_name_47 (C_reader hC) fr_X3_22 rfl ?_
      refine g_iald Γ (pc := 50) dX3_name_50 (C_39 hC) hf (fun v11 hf => ?_)
      refine g_i2c Γ (pc := 51) dX3_name_51 ?_
      refine g_callT Γ (pc := 52) (as := [.int ((v11.toUInt32 % 65536).toInt32)]) (st := []) dX3_name_52 (c_J0_ix hY (by decide)) hY (by decide) rfl mi_J0_indexOf_0f7a4 mv_J0_indexOf_0f7a4 kM_X3_78 rfl ⟨Nat.le_of_ble_eq_true rfl, Nat.le_of_ble_eq_true rfl⟩ rfl (Nat.le_of_ble_eq_true rfl) ?_
      refine g_goto Γ (pc := 55) (tgt := 59) dX3_name_55 rfl ?_
      refine g_nmi hf (fun e12 hf => ?_)
      refine g_istore_n Γ (pc := 59) (lv' := [(2, .int e12), (1, .ref (sK Y 3)), (0, .ref (sq Y 38))]) dX3_name_59 rfl (by decide) rfl ?_
      refine g_iload_n Γ (pc := 60) 0 dX3_name_60 rfl rfl ?_
      refine g_if_ge Γ (pc := 61) (tgt := 66) dX3_name_61 rfl hf (fun hf => ?_) (fun hf => ?_)
      · refine g_aload_n Γ (pc := 66) 2 dX3_name_66 rfl rfl ?_
        refine g_iconst Γ (pc := 67) (v := (-1)) dX3_name_67 rfl ?_
        refine g_iload_n Γ (pc := 68) 0 dX3_name_68 rfl rfl ?_
        refine g_isub Γ (pc := 69) dX3_name_69 ?_
        obtain ⟨m13, h1, hf⟩ := bn1_i hf
        refine g_callVV Γ (pc := 70) (as := [.int ((-1) - e12)]) (st := []) dX3_name_70 (c_X3_put hC h1) (C_reader hC) rfl mi_X3_put mv_X3_put kM_X3_98 rfl ⟨Nat.le_of_ble_eq_true rfl, Nat.le_of_ble_eq_true rfl⟩ rfl (Nat.le_of_ble_eq_true rfl) ?_
        refine g_aload_n Γ (pc := 73) 2 dX3_name_73 rfl rfl ?_
        refine g_dup Γ (pc := 74) dX3_name_74 rfl ?_
        refine g_get Γ (pc := 75) (v := .int (m13 38 7)) dX3_name_75 (C_reader hC) fr_X3_35 rfl ?_
        refine g_iconst Γ (pc := 78) (v := 1) dX3_name_78 rfl ?_
        refine g_iadd Γ (pc := 79) dX3_name_79 ?_
        refine g_put Γ (pc := 80) dX3_name_80 (C_reader hC) fw_X3_35 (Nat.le_of_ble_eq_true rfl) rfl ?_
        refine g_nmm hf (fun m14 hf => ?_)
        refine g_aload_n Γ (pc := 83) 2 dX3_name_83 rfl rfl ?_
        obtain ⟨m15, h1, hf⟩ := bn1_i hf
        refine g_callVV Γ (pc := 84) (as := []) (st := []) dX3_name_84 (c_X3_next hC h1) (C_reader hC) rfl mi_X3_next mv_X3_next kM_X3_41 rfl ⟨Nat.le_of_ble_eq_true rfl, Nat.le_of_ble_eq_true rfl⟩ rfl (Nat.le_of_ble_eq_true rfl) ?_
        refine g_iconst Γ (pc := 87) (v := 1) dX3_name_87 rfl ?_
        exact rZk ret dX3_name_88 (Or.inr rfl) hf
      · refine g_iconst Γ (pc := 64) (v := 0) dX3_name_64 rfl ?_
        exact rZk ret dX3_name_65 (Or.inl rfl) hf
def f_X3_signsOf (a0 : Int32) : Option (Nat) :=
  if a0 = 0 then
    some 6
  else
    if a0 = 1 then
      some 7
    else
      if a0 = 2 then
        some 8
      else
        if a0 = 3 then
          some 9
        else
          some 10
theorem f_X3_signsOf_lt {a0 : Int32} {k : Nat} (h : f_X3_signsOf a0 = some k) : k < 11 := by
  unfold f_X3_signsOf at h
  by_cases h0 : a0 = 0
  · rw [if_pos h0] at h; cases h; decide
  rw [if_neg h0] at h
  by_cases h1 : a0 = 1
  · rw [if_pos h1] at h; cases h; decide
  rw [if_neg h1] at h
  by_cases h2 : a0 = 2
  · rw [if_pos h2] at h; cases h; decide
  rw [if_neg h2] at h
  by_cases h3 : a0 = 3
  · rw [if_pos h3] at h; cases h; decide
  rw [if_neg h3] at h; cases h; decide
set_option maxRecDepth 100000 in
set_option maxHeartbeats 4000000 in
theorem c_X3_signsOf {Y : SYS} (hY : HasX Y) {a0 : Int32} {μ : Mem} {x : Nat} (hf : f_X3_signsOf a0 = some x) : KC Y yX3_signsOf cX3_signsOf 1 (some (.object "java/lang/String")) 0 [.int a0] μ (some (.ref (sK Y x))) μ := by
  refine KC.A RX3 [(0, .int a0)] (by decide) rfl (Nat.le_of_ble_eq_true rfl) rfl (fun G Γ ret => ?_)
  unfold f_X3_signsOf at hf
  refine g_iload_n Γ (pc := 0) 0 dX3_signsOf_0 rfl rfl ?_
  by_cases h1_0 : a0 = 0
  · replace hf := ite_t h1_0 hf
    refine g_tin Γ (pc := 1) (tgt := 32) 0 dX3_signsOf_1 h1_0 (by decide) (by decide) rfl rfl ?_
    refine g_ldcS Γ (pc := 32) dX3_signsOf_32 hY 6 (by decide) rfl ?_
    exact rA ret dX3_signsOf_34 hf
  · replace hf := ite_f h1_0 hf
    by_cases h1_1 : a0 = 1
    · replace hf := ite_t h1_1 hf
      refine g_tin Γ (pc := 1) (tgt := 35) 1 dX3_signsOf_1 h1_1 (by decide) (by decide) rfl rfl ?_
      refine g_ldcS Γ (pc := 35) dX3_signsOf_35 hY 7 (by decide) rfl ?_
      exact rA ret dX3_signsOf_37 hf
    · replace hf := ite_f h1_1 hf
      by_cases h1_2 : a0 = 2
      · replace hf := ite_t h1_2 hf
        refine g_tin Γ (pc := 1) (tgt := 38) 2 dX3_signsOf_1 h1_2 (by decide) (by decide) rfl rfl ?_
        refine g_ldcS Γ (pc := 38) dX3_signsOf_38 hY 8 (by decide) rfl ?_
        exact rA ret dX3_signsOf_40 hf
      · replace hf := ite_f h1_2 hf
        by_cases h1_3 : a0 = 3
        · replace hf := ite_t h1_3 hf
          refine g_tin Γ (pc := 1) (tgt := 41) 3 dX3_signsOf_1 h1_3 (by decide) (by decide) rfl rfl ?_
          refine g_ldcS Γ (pc := 41) dX3_signsOf_41 hY 9 (by decide) rfl ?_
          exact rA ret dX3_signsOf_43 hf
        · replace hf := ite_f h1_3 hf
          refine g_tableOut Γ (pc := 1) (tgt := 44) dX3_signsOf_1 (by have e0 := ne_ti (k := 0) rfl h1_0; have e1 := ne_ti (k := 1) rfl h1_1; have e2 := ne_ti (k := 2) rfl h1_2; have e3 := ne_ti (k := 3) rfl h1_3; omega) rfl ?_
          refine g_ldcS Γ (pc := 44) dX3_signsOf_44 hY 10 (by decide) rfl ?_
          exact rA ret dX3_signsOf_46 hf
def f_X3_joinsHere (a0 : Int32) (μ : Mem) : Option (Int32) :=
  if (μ 38 3) < (μ 38 2) then
    bn1 (f_X3_signsOf a0) fun k1 =>
    bn1 (ldM (μ 39) 96 (μ 38 3)) fun v2 =>
    if (sIx k1 ((v2.toUInt32 % 65536).toInt32)) < 0 then
      some 0
    else
      some 1
  else
    some 0
set_option maxRecDepth 100000 in
set_option maxHeartbeats 4000000 in
theorem c_X3_joinsHere {Y : SYS} (hC : IsC Y) (hY : HasX Y) {a0 : Int32} {μ : Mem} {x : Int32} (hf : f_X3_joinsHere a0 μ = some x) : KC Y yX3_joinsHere cX3_joinsHere 2 (some .boolean) 4 [.ref (sq Y 38), .int a0] μ (some (.int x)) μ := by
  refine KC.Z RX3 [(0, .ref (sq Y 38)), (1, .int a0)] (by decide) rfl (Nat.le_of_ble_eq_true rfl) rfl (fun G Γ ret => ?_)
  unfold f_X3_joinsHere at hf
  refine g_aload_n Γ (pc := 0) 0 dX3_joinsHere_0 rfl rfl ?_
  refine g_get Γ (pc := 1) (v := .int (μ 38 3)) dX3_joinsHere_1 (C_reader hC) fr_X3_22 rfl ?_
  refine g_aload_n Γ (pc := 4) 0 dX3_joinsHere_4 rfl rfl ?_
  refine g_get Γ (pc := 5) (v := .int (μ 38 2)) dX3_joinsHere_5 (C_reader hC) fr_X3_18 rfl ?_
  refine g_icmp_lt Γ (pc := 8) (tgt := 13) dX3_joinsHere_8 rfl hf (fun hf => ?_) (fun hf => ?_)
  · refine g_iload_n Γ (pc := 13) 1 dX3_joinsHere_13 rfl rfl ?_
    obtain ⟨k1, h1, hf⟩ := bn1_i hf
    have hk1 := f_X3_signsOf_lt h1
    refine g_callSA Γ (pc := 14) (as := [.int a0]) (st := []) dX3_joinsHere_14 (c_X3_signsOf hY h1) mi_X3_signsOf ms_X3_signsOf kM_X3_74 rfl ⟨Nat.le_of_ble_eq_true rfl, Nat.le_of_ble_eq_true rfl⟩ rfl (Nat.le_of_ble_eq_true rfl) ?_
    refine g_aload_n Γ (pc := 17) 0 dX3_joinsHere_17 rfl rfl ?_
    refine g_get Γ (pc := 18) (v := .ref (sq Y 39)) dX3_joinsHere_18 (C_reader hC) fr_X3_9 rfl ?_
    refine g_aload_n Γ (pc := 21) 0 dX3_joinsHere_21 rfl rfl ?_
    refine g_get Γ (pc := 22) (v := .int (μ 38 3)) dX3_joinsHere_22 (C_reader hC) fr_X3_22 rfl ?_
    refine g_iald Γ (pc := 25) dX3_joinsHere_25 (C_39 hC) hf (fun v2 hf => ?_)
    refine g_i2c Γ (pc := 26) dX3_joinsHere_26 ?_
    refine g_callT Γ (pc := 27) (as := [.int ((v2.toUInt32 % 65536).toInt32)]) (st := []) dX3_joinsHere_27 (c_J0_ix hY hk1) hY hk1 rfl mi_J0_indexOf_0f7a4 mv_J0_indexOf_0f7a4 kM_X3_78 rfl ⟨Nat.le_of_ble_eq_true rfl, Nat.le_of_ble_eq_true rfl⟩ rfl (Nat.le_of_ble_eq_true rfl) ?_
    refine g_if_lt Γ (pc := 30) (tgt := 37) dX3_joinsHere_30 rfl hf (fun hf => ?_) (fun hf => ?_)
    · refine g_iconst Γ (pc := 37) (v := 0) dX3_joinsHere_37 rfl ?_
      exact rZkr ret dX3_joinsHere_38 (Or.inl rfl) hf
    · refine g_iconst Γ (pc := 33) (v := 1) dX3_joinsHere_33 rfl ?_
      refine g_goto Γ (pc := 34) (tgt := 38) dX3_joinsHere_34 rfl ?_
      exact rZkr ret dX3_joinsHere_38 (Or.inr rfl) hf
  · refine g_iconst Γ (pc := 11) (v := 0) dX3_joinsHere_11 rfl ?_
    exact rZkr ret dX3_joinsHere_12 (Or.inl rfl) hf
def F_X3_negated (rec : Nat → Int32 → Int32 → Int32 → Mem → Option (Int32 × Mem)) (a0 : Int32) (a1 : Int32) (μ : Mem) : Option (Int32 × Mem) :=
  bn1 (f_X3_next μ) fun m1 =>
  bn2 (rec 1 a0 a1 0 m1) fun v2 m3 =>
  if v2 = 0 then
    some (0, m3)
  else
    bn1 (f_X3_put (-4) m3) fun m4 =>
    some (1, m4)
set_option maxRecDepth 100000 in
set_option maxHeartbeats 4000000 in
theorem o_X3_negated {Y : SYS} (hC : IsC Y) (hY : HasX Y) {rec : Nat → Int32 → Int32 → Int32 → Mem → Option (Int32 × Mem)} {n : Nat} (hrec_X3_piece : ∀ {a0 a1 : Int32} {μ m : Mem} {x : Int32}, rec 1 a0 a1 0 μ = some (x, m) → KC Y yX3_piece cX3_piece 3 (some .boolean) (5 + n) [.ref (sq Y 38), .int a0, .int a1] μ (some (.int x)) m) {a0 : Int32} {a1 : Int32} {μ : Mem} {x : Int32} {m : Mem} (hf : F_X3_negated rec a0 a1 μ = some (x, m)) : KC Y yX3_negated cX3_negated 3 (some .boolean) (5 + (n + 1)) [.ref (sq Y 38), .int a0, .int a1] μ (some (.int x)) m := by
  refine KC.Z RX3 [(0, .ref (sq Y 38)), (1, .int a0), (2, .int a1)] (by decide) rfl (Nat.le_of_ble_eq_true rfl) rfl (fun G Γ ret => ?_)
  unfold F_X3_negated at hf
  refine g_aload_n Γ (pc := 0) 0 dX3_negated_0 rfl rfl ?_
  obtain ⟨m1, h1, hf⟩ := bn1_i hf
  refine g_callVV Γ (pc := 1) (as := []) (st := []) dX3_negated_1 (c_X3_next hC h1) (C_reader hC) rfl mi_X3_next mv_X3_next kM_X3_41 rfl ⟨rm_f _ _ _ (by decide), rm_l _ _ _ _ (by decide) (by decide)⟩ rfl (Nat.le_of_ble_eq_true rfl) ?_
  refine g_aload_n Γ (pc := 4) 0 dX3_negated_4 rfl rfl ?_
  refine g_iload_n Γ (pc := 5) 1 dX3_negated_5 rfl rfl ?_
  refine g_iload_n Γ (pc := 6) 2 dX3_negated_6 rfl rfl ?_
  obtain ⟨v2, m3, h1, hf⟩ := bn2_i hf
  refine g_callVI Γ (pc := 7) (as := [.int a0, .int a1]) (st := []) dX3_negated_7 (hrec_X3_piece h1) (C_reader hC) rfl mi_X3_piece mv_X3_piece kM_X3_102 rfl ⟨rm_fs _ _, rm_ls _ _ _ (by decide)⟩ rfl (Nat.le_of_ble_eq_true rfl) ?_
  refine g_if_ne Γ (pc := 10) (tgt := 15) dX3_negated_10 rfl hf (fun hf => ?_) (fun hf => ?_)
  · refine g_aload_n Γ (pc := 15) 0 dX3_negated_15 rfl rfl ?_
    refine g_bipush Γ (pc := 16) (v := (-4)) dX3_negated_16 rfl ?_
    obtain ⟨m4, h1, hf⟩ := bn1_i hf
    refine g_callVV Γ (pc := 18) (as := [.int (-4)]) (st := []) dX3_negated_18 (c_X3_put hC h1) (C_reader hC) rfl mi_X3_put mv_X3_put kM_X3_98 rfl ⟨rm_f _ _ _ (by decide), rm_l _ _ _ _ (by decide) (by decide)⟩ rfl (Nat.le_of_ble_eq_true rfl) ?_
    refine g_iconst Γ (pc := 21) (v := 1) dX3_negated_21 rfl ?_
    exact rZk ret dX3_negated_22 (Or.inr rfl) hf
  · refine g_iconst Γ (pc := 13) (v := 0) dX3_negated_13 rfl ?_
    exact rZk ret dX3_negated_14 (Or.inl rfl) hf
def F_X3_enclosed (rec : Nat → Int32 → Int32 → Int32 → Mem → Option (Int32 × Mem)) (a0 : Int32) (a1 : Int32) (μ : Mem) : Option (Int32 × Mem) :=
  bn1 (f_X3_next μ) fun m1 =>
  bn2 (rec 0 0 a0 a1 m1) fun v2 m3 =>
  if v2 = 0 then
    some (0, m3)
  else
    if (m3 38 2) ≤ (m3 38 3) then
      some (0, m3)
    else
      bn1 (ldM (m3 39) 96 (m3 38 3)) fun v4 =>
      if v4 = 41 then
        bn1 (f_X3_next m3) fun m5 =>
        some (1, m5)
      else
        some (0, m3)
set_option maxRecDepth 100000 in
set_option maxHeartbeats 4000000 in
theorem o_X3_enclosed {Y : SYS} (hC : IsC Y) (hY : HasX Y) {rec : Nat → Int32 → Int32 → Int32 → Mem → Option (Int32 × Mem)} {n : Nat} (hrec_X3_level : ∀ {a0 a1 a2 : Int32} {μ m : Mem} {x : Int32}, rec 0 a0 a1 a2 μ = some (x, m) → KC Y yX3_level cX3_level 6 (some .boolean) (5 + n) [.ref (sq Y 38), .int a0, .int a1, .int a2] μ (some (.int x)) m) {a0 : Int32} {a1 : Int32} {μ : Mem} {x : Int32} {m : Mem} (hf : F_X3_enclosed rec a0 a1 μ = some (x, m)) : KC Y yX3_enclosed cX3_enclosed 3 (some .boolean) (5 + (n + 1)) [.ref (sq Y 38), .int a0, .int a1] μ (some (.int x)) m := by
  refine KC.Z RX3 [(0, .ref (sq Y 38)), (1, .int a0), (2, .int a1)] (by decide) rfl (Nat.le_of_ble_eq_true rfl) rfl (fun G Γ ret => ?_)
  unfold F_X3_enclosed at hf
  refine g_aload_n Γ (pc := 0) 0 dX3_enclosed_0 rfl rfl ?_
  obtain ⟨m1, h1, hf⟩ := bn1_i hf
  refine g_callVV Γ (pc := 1) (as := []) (st := []) dX3_enclosed_1 (c_X3_next hC h1) (C_reader hC) rfl mi_X3_next mv_X3_next kM_X3_41 rfl ⟨rm_f _ _ _ (by decide), rm_l _ _ _ _ (by decide) (by decide)⟩ rfl (Nat.le_of_ble_eq_true rfl) ?_
  refine g_aload_n Γ (pc := 4) 0 dX3_enclosed_4 rfl rfl ?_
  refine g_iconst Γ (pc := 5) (v := 0) dX3_enclosed_5 rfl ?_
  refine g_iload_n Γ (pc := 6) 1 dX3_enclosed_6 rfl rfl ?_
  refine g_iload_n Γ (pc := 7) 2 dX3_enclosed_7 rfl rfl ?_
  obtain ⟨v2, m3, h1, hf⟩ := bn2_i hf
  refine g_callVI Γ (pc := 8) (as := [.int 0, .int a0, .int a1]) (st := []) dX3_enclosed_8 (hrec_X3_level h1) (C_reader hC) rfl mi_X3_level mv_X3_level kM_X3_48 rfl ⟨rm_fs _ _, rm_ls _ _ _ (by decide)⟩ rfl (Nat.le_of_ble_eq_true rfl) ?_
  refine g_if_eq Γ (pc := 11) (tgt := 39) dX3_enclosed_11 rfl hf (fun hf => ?_) (fun hf => ?_)
  · refine g_iconst Γ (pc := 39) (v := 0) dX3_enclosed_39 rfl ?_
    exact rZk ret dX3_enclosed_40 (Or.inl rfl) hf
  · refine g_aload_n Γ (pc := 14) 0 dX3_enclosed_14 rfl rfl ?_
    refine g_get Γ (pc := 15) (v := .int (m3 38 3)) dX3_enclosed_15 (C_reader hC) fr_X3_22 rfl ?_
    refine g_aload_n Γ (pc := 18) 0 dX3_enclosed_18 rfl rfl ?_
    refine g_get Γ (pc := 19) (v := .int (m3 38 2)) dX3_enclosed_19 (C_reader hC) fr_X3_18 rfl ?_
    refine g_icmp_ge Γ (pc := 22) (tgt := 39) dX3_enclosed_22 rfl hf (fun hf => ?_) (fun hf => ?_)
    · refine g_iconst Γ (pc := 39) (v := 0) dX3_enclosed_39 rfl ?_
      exact rZk ret dX3_enclosed_40 (Or.inl rfl) hf
    · refine g_aload_n Γ (pc := 25) 0 dX3_enclosed_25 rfl rfl ?_
      refine g_get Γ (pc := 26) (v := .ref (sq Y 39)) dX3_enclosed_26 (C_reader hC) fr_X3_9 rfl ?_
      refine g_aload_n Γ (pc := 29) 0 dX3_enclosed_29 rfl rfl ?_
      refine g_get Γ (pc := 30) (v := .int (m3 38 3)) dX3_enclosed_30 (C_reader hC) fr_X3_22 rfl ?_
      refine g_iald Γ (pc := 33) dX3_enclosed_33 (C_39 hC) hf (fun v4 hf => ?_)
      refine g_bipush Γ (pc := 34) (v := 41) dX3_enclosed_34 rfl ?_
      refine g_icmp_eq Γ (pc := 36) (tgt := 41) dX3_enclosed_36 rfl hf (fun hf => ?_) (fun hf => ?_)
      · refine g_aload_n Γ (pc := 41) 0 dX3_enclosed_41 rfl rfl ?_
        obtain ⟨m5, h1, hf⟩ := bn1_i hf
        refine g_callVV Γ (pc := 42) (as := []) (st := []) dX3_enclosed_42 (c_X3_next hC h1) (C_reader hC) rfl mi_X3_next mv_X3_next kM_X3_41 rfl ⟨rm_f _ _ _ (by decide), rm_l _ _ _ _ (by decide) (by decide)⟩ rfl (Nat.le_of_ble_eq_true rfl) ?_
        refine g_iconst Γ (pc := 45) (v := 1) dX3_enclosed_45 rfl ?_
        exact rZk ret dX3_enclosed_46 (Or.inr rfl) hf
      · refine g_iconst Γ (pc := 39) (v := 0) dX3_enclosed_39 rfl ?_
        exact rZk ret dX3_enclosed_40 (Or.inl rfl) hf
def F_X3_piece (rec : Nat → Int32 → Int32 → Int32 → Mem → Option (Int32 × Mem)) (a0 : Int32) (a1 : Int32) (μ : Mem) : Option (Int32 × Mem) :=
  if (μ 38 2) ≤ (μ 38 3) then
    some (0, μ)
  else
    if (μ 38 5) = 0 then
      bn1 (ldM (μ 39) 96 (μ 38 3)) fun v1 =>
      if v1 = 33 then
        if 8 ≤ a1 then
          some (0, μ)
        else
          bn2 (rec 2 a0 (a1 + 1) 0 μ) fun v10 m11 =>
          if v10 = 0 then
            some (0, m11)
          else
            some (1, m11)
      else
        bn1 (ldM (μ 39) 96 (μ 38 3)) fun v2 =>
        if v2 = 40 then
          if 8 ≤ a0 then
            some (0, μ)
          else
            bn2 (rec 3 (a0 + 1) a1 0 μ) fun v8 m9 =>
            if v8 = 0 then
              some (0, m9)
            else
              some (1, m9)
        else
          bn1 (f_X3_sortAt (μ 38 3) μ) fun v3 =>
          if v3 = 3 then
            bn2 (f_X3_number μ) fun v6 m7 =>
            bn1 (zM v6) fun v => some (v, m7)
          else
            bn2 (f_X3_name μ) fun v4 m5 =>
            bn1 (zM v4) fun v => some (v, m5)
    else
      some (0, μ)
set_option maxRecDepth 100000 in
set_option maxHeartbeats 4000000 in
theorem o_X3_piece {Y : SYS} (hC : IsC Y) (hY : HasX Y) {rec : Nat → Int32 → Int32 → Int32 → Mem → Option (Int32 × Mem)} {n : Nat} (hrec_X3_negated : ∀ {a0 a1 : Int32} {μ m : Mem} {x : Int32}, rec 2 a0 a1 0 μ = some (x, m) → KC Y yX3_negated cX3_negated 3 (some .boolean) (5 + n) [.ref (sq Y 38), .int a0, .int a1] μ (some (.int x)) m) (hrec_X3_enclosed : ∀ {a0 a1 : Int32} {μ m : Mem} {x : Int32}, rec 3 a0 a1 0 μ = some (x, m) → KC Y yX3_enclosed cX3_enclosed 3 (some .boolean) (5 + n) [.ref (sq Y 38), .int a0, .int a1] μ (some (.int x)) m) {a0 : Int32} {a1 : Int32} {μ : Mem} {x : Int32} {m : Mem} (hf : F_X3_piece rec a0 a1 μ = some (x, m)) : KC Y yX3_piece cX3_piece 3 (some .boolean) (5 + (n + 1)) [.ref (sq Y 38), .int a0, .int a1] μ (some (.int x)) m := by
  refine KC.Z RX3 [(0, .ref (sq Y 38)), (1, .int a0), (2, .int a1)] (by decide) rfl (Nat.le_of_ble_eq_true rfl) rfl (fun G Γ ret => ?_)
  unfold F_X3_piece at hf
  refine g_aload_n Γ (pc := 0) 0 dX3_piece_0 rfl rfl ?_
  refine g_get Γ (pc := 1) (v := .int (μ 38 3)) dX3_piece_1 (C_reader hC) fr_X3_22 rfl ?_
  refine g_aload_n Γ (pc := 4) 0 dX3_piece_4 rfl rfl ?_
  refine g_get Γ (pc := 5) (v := .int (μ 38 2)) dX3_piece_5 (C_reader hC) fr_X3_18 rfl ?_
  refine g_icmp_ge Γ (pc := 8) (tgt := 18) dX3_piece_8 rfl hf (fun hf => ?_) (fun hf => ?_)
  · refine g_iconst Γ (pc := 18) (v := 0) dX3_piece_18 rfl ?_
    exact rZk ret dX3_piece_19 (Or.inl rfl) hf
  · refine g_aload_n Γ (pc := 11) 0 dX3_piece_11 rfl rfl ?_
    refine g_get Γ (pc := 12) (v := .int (μ 38 5)) dX3_piece_12 (C_reader hC) fr_X3_28 rfl ?_
    refine g_if_eq Γ (pc := 15) (tgt := 20) dX3_piece_15 rfl hf (fun hf => ?_) (fun hf => ?_)
    · refine g_aload_n Γ (pc := 20) 0 dX3_piece_20 rfl rfl ?_
      refine g_get Γ (pc := 21) (v := .ref (sq Y 39)) dX3_piece_21 (C_reader hC) fr_X3_9 rfl ?_
      refine g_aload_n Γ (pc := 24) 0 dX3_piece_24 rfl rfl ?_
      refine g_get Γ (pc := 25) (v := .int (μ 38 3)) dX3_piece_25 (C_reader hC) fr_X3_22 rfl ?_
      refine g_iald Γ (pc := 28) dX3_piece_28 (C_39 hC) hf (fun v1 hf => ?_)
      refine g_bipush Γ (pc := 29) (v := 33) dX3_piece_29 rfl ?_
      refine g_icmp_ne Γ (pc := 31) (tgt := 57) dX3_piece_31 rfl hf (fun hf => ?_) (fun hf => ?_)
      · refine g_aload_n Γ (pc := 57) 0 dX3_piece_57 rfl rfl ?_
        refine g_get Γ (pc := 58) (v := .ref (sq Y 39)) dX3_piece_58 (C_reader hC) fr_X3_9 rfl ?_
        refine g_aload_n Γ (pc := 61) 0 dX3_piece_61 rfl rfl ?_
        refine g_get Γ (pc := 62) (v := .int (μ 38 3)) dX3_piece_62 (C_reader hC) fr_X3_22 rfl ?_
        refine g_iald Γ (pc := 65) dX3_piece_65 (C_39 hC) hf (fun v2 hf => ?_)
        refine g_bipush Γ (pc := 66) (v := 40) dX3_piece_66 rfl ?_
        refine g_icmp_ne Γ (pc := 68) (tgt := 94) dX3_piece_68 rfl hf (fun hf => ?_) (fun hf => ?_)
        · refine g_aload_n Γ (pc := 94) 0 dX3_piece_94 rfl rfl ?_
          refine g_aload_n Γ (pc := 95) 0 dX3_piece_95 rfl rfl ?_
          refine g_get Γ (pc := 96) (v := .int (μ 38 3)) dX3_piece_96 (C_reader hC) fr_X3_22 rfl ?_
          obtain ⟨v3, h1, hf⟩ := bn1_i hf
          refine g_callVI Γ (pc := 99) (as := [.int (μ 38 3)]) (st := []) dX3_piece_99 (c_X3_sortAt hC h1) (C_reader hC) rfl mi_X3_sortAt mv_X3_sortAt kM_X3_52 rfl ⟨rm_f _ _ _ (by decide), rm_l _ _ _ _ (by decide) (by decide)⟩ rfl (Nat.le_of_ble_eq_true rfl) ?_
          refine g_iconst Γ (pc := 102) (v := 3) dX3_piece_102 rfl ?_
          refine g_icmp_ne Γ (pc := 103) (tgt := 113) dX3_piece_103 rfl hf (fun hf => ?_) (fun hf => ?_)
          · refine g_aload_n Γ (pc := 113) 0 dX3_piece_113 rfl rfl ?_
            obtain ⟨v4, m5, h1, hf⟩ := bn2_i hf
            refine g_callVI Γ (pc := 114) (as := []) (st := []) dX3_piece_114 (c_X3_name hC hY h1) (C_reader hC) rfl mi_X3_name mv_X3_name kM_X3_116 rfl ⟨rm_f _ _ _ (by decide), rm_l _ _ _ _ (by decide) (by decide)⟩ rfl (Nat.le_of_ble_eq_true rfl) ?_
            exact rZ ret dX3_piece_117 hf
          · refine g_aload_n Γ (pc := 106) 0 dX3_piece_106 rfl rfl ?_
            obtain ⟨v6, m7, h1, hf⟩ := bn2_i hf
            refine g_callVI Γ (pc := 107) (as := []) (st := []) dX3_piece_107 (c_X3_number hC h1) (C_reader hC) rfl mi_X3_number mv_X3_number kM_X3_112 rfl ⟨rm_f _ _ _ (by decide), rm_l _ _ _ _ (by decide) (by decide)⟩ rfl (Nat.le_of_ble_eq_true rfl) ?_
            refine g_goto Γ (pc := 110) (tgt := 117) dX3_piece_110 rfl ?_
            exact rZ ret dX3_piece_117 hf
        · refine g_iload_n Γ (pc := 71) 1 dX3_piece_71 rfl rfl ?_
          refine g_bipush Γ (pc := 72) (v := 8) dX3_piece_72 rfl ?_
          refine g_icmp_ge Γ (pc := 74) (tgt := 92) dX3_piece_74 rfl hf (fun hf => ?_) (fun hf => ?_)
          · refine g_iconst Γ (pc := 92) (v := 0) dX3_piece_92 rfl ?_
            exact rZk ret dX3_piece_93 (Or.inl rfl) hf
          · refine g_aload_n Γ (pc := 77) 0 dX3_piece_77 rfl rfl ?_
            refine g_iload_n Γ (pc := 78) 1 dX3_piece_78 rfl rfl ?_
            refine g_iconst Γ (pc := 79) (v := 1) dX3_piece_79 rfl ?_
            refine g_iadd Γ (pc := 80) dX3_piece_80 ?_
            refine g_iload_n Γ (pc := 81) 2 dX3_piece_81 rfl rfl ?_
            obtain ⟨v8, m9, h1, hf⟩ := bn2_i hf
            refine g_callVI Γ (pc := 82) (as := [.int (a0 + 1), .int a1]) (st := []) dX3_piece_82 (hrec_X3_enclosed h1) (C_reader hC) rfl mi_X3_enclosed mv_X3_enclosed kM_X3_109 rfl ⟨rm_fs _ _, rm_ls _ _ _ (by decide)⟩ rfl (Nat.le_of_ble_eq_true rfl) ?_
            refine g_if_eq Γ (pc := 85) (tgt := 92) dX3_piece_85 rfl hf (fun hf => ?_) (fun hf => ?_)
            · refine g_iconst Γ (pc := 92) (v := 0) dX3_piece_92 rfl ?_
              exact rZk ret dX3_piece_93 (Or.inl rfl) hf
            · refine g_iconst Γ (pc := 88) (v := 1) dX3_piece_88 rfl ?_
              refine g_goto Γ (pc := 89) (tgt := 93) dX3_piece_89 rfl ?_
              exact rZk ret dX3_piece_93 (Or.inr rfl) hf
      · refine g_iload_n Γ (pc := 34) 2 dX3_piece_34 rfl rfl ?_
        refine g_bipush Γ (pc := 35) (v := 8) dX3_piece_35 rfl ?_
        refine g_icmp_ge Γ (pc := 37) (tgt := 55) dX3_piece_37 rfl hf (fun hf => ?_) (fun hf => ?_)
        · refine g_iconst Γ (pc := 55) (v := 0) dX3_piece_55 rfl ?_
          exact rZk ret dX3_piece_56 (Or.inl rfl) hf
        · refine g_aload_n Γ (pc := 40) 0 dX3_piece_40 rfl rfl ?_
          refine g_iload_n Γ (pc := 41) 1 dX3_piece_41 rfl rfl ?_
          refine g_iload_n Γ (pc := 42) 2 dX3_piece_42 rfl rfl ?_
          refine g_iconst Γ (pc := 43) (v := 1) dX3_piece_43 rfl ?_
          refine g_iadd Γ (pc := 44) dX3_piece_44 ?_
          obtain ⟨v10, m11, h1, hf⟩ := bn2_i hf
          refine g_callVI Γ (pc := 45) (as := [.int a0, .int (a1 + 1)]) (st := []) dX3_piece_45 (hrec_X3_negated h1) (C_reader hC) rfl mi_X3_negated mv_X3_negated kM_X3_106 rfl ⟨rm_fs _ _, rm_ls _ _ _ (by decide)⟩ rfl (Nat.le_of_ble_eq_true rfl) ?_
          refine g_if_eq Γ (pc := 48) (tgt := 55) dX3_piece_48 rfl hf (fun hf => ?_) (fun hf => ?_)
          · refine g_iconst Γ (pc := 55) (v := 0) dX3_piece_55 rfl ?_
            exact rZk ret dX3_piece_56 (Or.inl rfl) hf
          · refine g_iconst Γ (pc := 51) (v := 1) dX3_piece_51 rfl ?_
            refine g_goto Γ (pc := 52) (tgt := 56) dX3_piece_52 rfl ?_
            exact rZk ret dX3_piece_56 (Or.inr rfl) hf
    · refine g_iconst Γ (pc := 18) (v := 0) dX3_piece_18 rfl ?_
      exact rZk ret dX3_piece_19 (Or.inl rfl) hf
def f_X3_level_K15_55 (m3 : Mem) : Option (Int32 × Mem) :=
  some (0, m3)
def f_X3_level_K15_69 (m4 : Mem) : Option (Int32 × Mem) :=
  some (1, m4)
def f_X3_level_K15_78 (m5 : Mem) : Option (Int32 × Mem) :=
  some (1, m5)
def f_X3_level_L15 (rec : Nat → Int32 → Int32 → Int32 → Mem → Option (Int32 × Mem)) (a0 : Int32) (a1 : Int32) (a2 : Int32) (x4_6 : Int32) (m7 : Mem) : Option ((Int32 × Mem) ⊕ (Mem ⊕ (Mem ⊕ Mem))) :=
  if 96 ≤ x4_6 then
    some (.inr (.inr (.inr m7)))
  else
    bn1 (f_X3_joinsHere a0 m7) fun v8 =>
    if v8 = 0 then
      some (.inr (.inr (.inr m7)))
    else
      bn1 (ldM (m7 39) 96 (m7 38 3)) fun v9 =>
      bn1 (f_X3_next m7) fun m10 =>
      bn2 (rec 4 a0 a1 a2 m10) fun v11 m12 =>
      if v11 = 0 then
        some (.inr (.inl m12))
      else
        bn1 (f_X3_put (-v9) m12) fun m13 =>
        if a0 = 2 then
          some (.inr (.inr (.inl m13)))
        else
          some (.inl (x4_6 + 1, m13))
def F_X3_level (rec : Nat → Int32 → Int32 → Int32 → Mem → Option (Int32 × Mem)) (a0 : Int32) (a1 : Int32) (a2 : Int32) (μ : Mem) : Option (Int32 × Mem) :=
  bn2 (rec 4 a0 a1 a2 μ) fun v1 m2 =>
  if v1 = 0 then
    some (0, m2)
  else
    bn1 (lpF (fun v => f_X3_level_L15 rec a0 a1 a2 v.1 v.2) 4000 (0, m2)) (fun x => cs2 x (fun y => f_X3_level_K15_55 y) (fun x0 => cs2 x0 (fun y => f_X3_level_K15_69 y) (fun x01 => f_X3_level_K15_78 x01)))
set_option maxRecDepth 100000 in
set_option maxHeartbeats 4000000 in
theorem o_X3_level {Y : SYS} (hC : IsC Y) (hY : HasX Y) {rec : Nat → Int32 → Int32 → Int32 → Mem → Option (Int32 × Mem)} {n : Nat} (hrec_X3_side : ∀ {a0 a1 a2 : Int32} {μ m : Mem} {x : Int32}, rec 4 a0 a1 a2 μ = some (x, m) → KC Y yX3_side cX3_side 4 (some .boolean) (5 + n) [.ref (sq Y 38), .int a0, .int a1, .int a2] μ (some (.int x)) m) {a0 : Int32} {a1 : Int32} {a2 : Int32} {μ : Mem} {x : Int32} {m : Mem} (hf : F_X3_level rec a0 a1 a2 μ = some (x, m)) : KC Y yX3_level cX3_level 6 (some .boolean) (5 + (n + 1)) [.ref (sq Y 38), .int a0, .int a1, .int a2] μ (some (.int x)) m := by
  refine KC.Z RX3 [(0, .ref (sq Y 38)), (1, .int a0), (2, .int a1), (3, .int a2)] (by decide) rfl (Nat.le_of_ble_eq_true rfl) rfl (fun G Γ ret => ?_)
  unfold F_X3_level at hf
  refine g_aload_n Γ (pc := 0) 0 dX3_level_0 rfl rfl ?_
  refine g_iload_n Γ (pc := 1) 1 dX3_level_1 rfl rfl ?_
  refine g_iload_n Γ (pc := 2) 2 dX3_level_2 rfl rfl ?_
  refine g_iload_n Γ (pc := 3) 3 dX3_level_3 rfl rfl ?_
  obtain ⟨v1, m2, h1, hf⟩ := bn2_i hf
  refine g_callVI Γ (pc := 4) (as := [.int a0, .int a1, .int a2]) (st := []) dX3_level_4 (hrec_X3_side h1) (C_reader hC) rfl mi_X3_side mv_X3_side kM_X3_91 rfl ⟨rm_fs _ _, rm_ls _ _ _ (by decide)⟩ rfl (Nat.le_of_ble_eq_true rfl) ?_
  refine g_if_ne Γ (pc := 7) (tgt := 12) dX3_level_7 rfl hf (fun hf => ?_) (fun hf => ?_)
  · refine g_iconst Γ (pc := 12) (v := 0) dX3_level_12 rfl ?_
    refine g_istore Γ (pc := 13) (lv' := [(4, .int 0), (0, .ref (sq Y 38)), (1, .int a0), (2, .int a1), (3, .int a2)]) dX3_level_13 (by decide) rfl ?_
    have K_15_55 : ∀ (m3 : Mem), f_X3_level_K15_55 m3 = some (x, m) → G 55 [] [] m3 := by
      intro m3 hf
      unfold f_X3_level_K15_55 at hf
      refine g_iconst Γ (pc := 55) (v := 0) dX3_level_55 rfl ?_
      exact rZk ret dX3_level_56 (Or.inl rfl) hf
    have K_15_69 : ∀ (m4 : Mem), f_X3_level_K15_69 m4 = some (x, m) → G 69 [] [] m4 := by
      intro m4 hf
      unfold f_X3_level_K15_69 at hf
      refine g_goto Γ (pc := 69) (tgt := 78) dX3_level_69 rfl ?_
      refine g_iconst Γ (pc := 78) (v := 1) dX3_level_78 rfl ?_
      exact rZk ret dX3_level_79 (Or.inr rfl) hf
    have K_15_78 : ∀ (m5 : Mem), f_X3_level_K15_78 m5 = some (x, m) → G 78 [] [] m5 := by
      intro m5 hf
      unfold f_X3_level_K15_78 at hf
      refine g_iconst Γ (pc := 78) (v := 1) dX3_level_78 rfl ?_
      exact rZk ret dX3_level_79 (Or.inr rfl) hf
    refine g_sub Γ [1, 2, 3, 4, 0] rfl ?_
    refine lpF_s (P := fun (v : Int32 × Mem) => G 15 [(0, .ref (sq Y 38)), (1, .int a0), (2, .int a1), (3, .int a2), (4, .int v.1)] [] v.2) hf (fun v z1 hf kI1 kX1 => ?_)
    obtain ⟨x4_6, m7⟩ := v
    replace hf : f_X3_level_L15 rec a0 a1 a2 x4_6 m7 = some z1 := hf
    show G 15 [(0, .ref (sq Y 38)), (1, .int a0), (2, .int a1), (3, .int a2), (4, .int x4_6)] [] m7
    unfold f_X3_level_L15 at hf
    refine g_iload Γ (pc := 15) 4 dX3_level_15 rfl ?_
    refine g_bipush Γ (pc := 17) (v := 96) dX3_level_17 rfl ?_
    refine g_icmp_ge Γ (pc := 19) (tgt := 78) dX3_level_19 rfl hf (fun hf => ?_) (fun hf => ?_)
    · refine g_sub Γ [] rfl ?_
      exact K_15_78 m7 (kX1 (.inr (.inr m7)) (Option.some.inj hf).symm)
    · refine g_aload_n Γ (pc := 22) 0 dX3_level_22 rfl rfl ?_
      refine g_iload_n Γ (pc := 23) 1 dX3_level_23 rfl rfl ?_
      obtain ⟨v8, h1, hf⟩ := bn1_i hf
      refine g_callVI Γ (pc := 24) (as := [.int a0]) (st := []) dX3_level_24 (c_X3_joinsHere hC hY h1) (C_reader hC) rfl mi_X3_joinsHere mv_X3_joinsHere kM_X3_94 rfl ⟨rm_f _ _ _ (by decide), rm_l _ _ _ _ (by decide) (by decide)⟩ rfl (Nat.le_of_ble_eq_true rfl) ?_
      refine g_if_eq Γ (pc := 27) (tgt := 78) dX3_level_27 rfl hf (fun hf => ?_) (fun hf => ?_)
      · refine g_sub Γ [] rfl ?_
        exact K_15_78 m7 (kX1 (.inr (.inr m7)) (Option.some.inj hf).symm)
      · refine g_aload_n Γ (pc := 30) 0 dX3_level_30 rfl rfl ?_
        refine g_get Γ (pc := 31) (v := .ref (sq Y 39)) dX3_level_31 (C_reader hC) fr_X3_9 rfl ?_
        refine g_aload_n Γ (pc := 34) 0 dX3_level_34 rfl rfl ?_
        refine g_get Γ (pc := 35) (v := .int (m7 38 3)) dX3_level_35 (C_reader hC) fr_X3_22 rfl ?_
        refine g_iald Γ (pc := 38) dX3_level_38 (C_39 hC) hf (fun v9 hf => ?_)
        refine g_istore Γ (pc := 39) (lv' := [(5, .int v9), (0, .ref (sq Y 38)), (1, .int a0), (2, .int a1), (3, .int a2), (4, .int x4_6)]) dX3_level_39 (by decide) rfl ?_
        refine g_aload_n Γ (pc := 41) 1 dX3_level_41 rfl rfl ?_
        obtain ⟨m10, h1, hf⟩ := bn1_i hf
        refine g_callVV Γ (pc := 42) (as := []) (st := []) dX3_level_42 (c_X3_next hC h1) (C_reader hC) rfl mi_X3_next mv_X3_next kM_X3_41 rfl ⟨rm_f _ _ _ (by decide), rm_l _ _ _ _ (by decide) (by decide)⟩ rfl (Nat.le_of_ble_eq_true rfl) ?_
        refine g_aload_n Γ (pc := 45) 1 dX3_level_45 rfl rfl ?_
        refine g_iload_n Γ (pc := 46) 2 dX3_level_46 rfl rfl ?_
        refine g_iload_n Γ (pc := 47) 3 dX3_level_47 rfl rfl ?_
        refine g_iload_n Γ (pc := 48) 4 dX3_level_48 rfl rfl ?_
        obtain ⟨v11, m12, h1, hf⟩ := bn2_i hf
        refine g_callVI Γ (pc := 49) (as := [.int a0, .int a1, .int a2]) (st := []) dX3_level_49 (hrec_X3_side h1) (C_reader hC) rfl mi_X3_side mv_X3_side kM_X3_91 rfl ⟨rm_fs _ _, rm_ls _ _ _ (by decide)⟩ rfl (Nat.le_of_ble_eq_true rfl) ?_
        refine g_if_ne Γ (pc := 52) (tgt := 57) dX3_level_52 rfl hf (fun hf => ?_) (fun hf => ?_)
        · refine g_aload_n Γ (pc := 57) 1 dX3_level_57 rfl rfl ?_
          refine g_iload Γ (pc := 58) 0 dX3_level_58 rfl ?_
          refine g_ineg Γ (pc := 60) dX3_level_60 ?_
          obtain ⟨m13, h1, hf⟩ := bn1_i hf
          refine g_callVV Γ (pc := 61) (as := [.int (-v9)]) (st := []) dX3_level_61 (c_X3_put hC h1) (C_reader hC) rfl mi_X3_put mv_X3_put kM_X3_98 rfl ⟨rm_f _ _ _ (by decide), rm_l _ _ _ _ (by decide) (by decide)⟩ rfl (Nat.le_of_ble_eq_true rfl) ?_
          refine g_iload_n Γ (pc := 64) 2 dX3_level_64 rfl rfl ?_
          refine g_iconst Γ (pc := 65) (v := 2) dX3_level_65 rfl ?_
          refine g_icmp_ne Γ (pc := 66) (tgt := 72) dX3_level_66 rfl hf (fun hf => ?_) (fun hf => ?_)
          · refine g_iinc Γ (pc := 72) (v := x4_6 + 1) (lv' := [(4, .int (x4_6 + 1)), (5, .int v9), (0, .ref (sq Y 38)), (1, .int a0), (2, .int a1), (3, .int a2)]) 5 dX3_level_72 rfl rfl (by decide) rfl ?_
            refine g_goto Γ (pc := 75) (tgt := 15) dX3_level_75 rfl ?_
            refine g_sub Γ [2, 3, 4, 5, 0] rfl ?_
            exact kI1 (x4_6 + 1, m13) (Option.some.inj hf).symm
          · refine g_sub Γ [] rfl ?_
            exact K_15_69 m13 (kX1 (.inr (.inl m13)) (Option.some.inj hf).symm)
        · refine g_sub Γ [] rfl ?_
          exact K_15_55 m12 (kX1 (.inl m12) (Option.some.inj hf).symm)
  · refine g_iconst Γ (pc := 10) (v := 0) dX3_level_10 rfl ?_
    exact rZk ret dX3_level_11 (Or.inl rfl) hf
def F_X3_side (rec : Nat → Int32 → Int32 → Int32 → Mem → Option (Int32 × Mem)) (a0 : Int32) (a1 : Int32) (a2 : Int32) (μ : Mem) : Option (Int32 × Mem) :=
  if 4 ≤ a0 then
    bn2 (rec 1 a1 a2 0 μ) fun v1 m2 =>
    bn1 (zM v1) fun v => some (v, m2)
  else
    bn2 (rec 0 (a0 + 1) a1 a2 μ) fun v3 m4 =>
    bn1 (zM v3) fun v => some (v, m4)
set_option maxRecDepth 100000 in
set_option maxHeartbeats 4000000 in
theorem o_X3_side {Y : SYS} (hC : IsC Y) (hY : HasX Y) {rec : Nat → Int32 → Int32 → Int32 → Mem → Option (Int32 × Mem)} {n : Nat} (hrec_X3_level : ∀ {a0 a1 a2 : Int32} {μ m : Mem} {x : Int32}, rec 0 a0 a1 a2 μ = some (x, m) → KC Y yX3_level cX3_level 6 (some .boolean) (5 + n) [.ref (sq Y 38), .int a0, .int a1, .int a2] μ (some (.int x)) m) (hrec_X3_piece : ∀ {a0 a1 : Int32} {μ m : Mem} {x : Int32}, rec 1 a0 a1 0 μ = some (x, m) → KC Y yX3_piece cX3_piece 3 (some .boolean) (5 + n) [.ref (sq Y 38), .int a0, .int a1] μ (some (.int x)) m) {a0 : Int32} {a1 : Int32} {a2 : Int32} {μ : Mem} {x : Int32} {m : Mem} (hf : F_X3_side rec a0 a1 a2 μ = some (x, m)) : KC Y yX3_side cX3_side 4 (some .boolean) (5 + (n + 1)) [.ref (sq Y 38), .int a0, .int a1, .int a2] μ (some (.int x)) m := by
  refine KC.Z RX3 [(0, .ref (sq Y 38)), (1, .int a0), (2, .int a1), (3, .int a2)] (by decide) rfl (Nat.le_of_ble_eq_true rfl) rfl (fun G Γ ret => ?_)
  unfold F_X3_side at hf
  refine g_iload_n Γ (pc := 0) 1 dX3_side_0 rfl rfl ?_
  refine g_iconst Γ (pc := 1) (v := 4) dX3_side_1 rfl ?_
  refine g_icmp_ge Γ (pc := 2) (tgt := 17) dX3_side_2 rfl hf (fun hf => ?_) (fun hf => ?_)
  · refine g_aload_n Γ (pc := 17) 0 dX3_side_17 rfl rfl ?_
    refine g_iload_n Γ (pc := 18) 2 dX3_side_18 rfl rfl ?_
    refine g_iload_n Γ (pc := 19) 3 dX3_side_19 rfl rfl ?_
    obtain ⟨v1, m2, h1, hf⟩ := bn2_i hf
    refine g_callVI Γ (pc := 20) (as := [.int a1, .int a2]) (st := []) dX3_side_20 (hrec_X3_piece h1) (C_reader hC) rfl mi_X3_piece mv_X3_piece kM_X3_102 rfl ⟨rm_fs _ _, rm_ls _ _ _ (by decide)⟩ rfl (Nat.le_of_ble_eq_true rfl) ?_
    exact rZ ret dX3_side_23 hf
  · refine g_aload_n Γ (pc := 5) 0 dX3_side_5 rfl rfl ?_
    refine g_iload_n Γ (pc := 6) 1 dX3_side_6 rfl rfl ?_
    refine g_iconst Γ (pc := 7) (v := 1) dX3_side_7 rfl ?_
    refine g_iadd Γ (pc := 8) dX3_side_8 ?_
    refine g_iload_n Γ (pc := 9) 2 dX3_side_9 rfl rfl ?_
    refine g_iload_n Γ (pc := 10) 3 dX3_side_10 rfl rfl ?_
    obtain ⟨v3, m4, h1, hf⟩ := bn2_i hf
    refine g_callVI Γ (pc := 11) (as := [.int (a0 + 1), .int a1, .int a2]) (st := []) dX3_side_11 (hrec_X3_level h1) (C_reader hC) rfl mi_X3_level mv_X3_level kM_X3_48 rfl ⟨rm_fs _ _, rm_ls _ _ _ (by decide)⟩ rfl (Nat.le_of_ble_eq_true rfl) ?_
    refine g_goto Γ (pc := 14) (tgt := 23) dX3_side_14 rfl ?_
    exact rZ ret dX3_side_23 hf
def r_C : Nat → Nat → Int32 → Int32 → Int32 → Mem → Option (Int32 × Mem)
  | 0, _, _, _, _, _ => none
  | n + 1, t, a, b, c, μ =>
    if t = 0 then F_X3_level (r_C n) a b c μ else if t = 1 then F_X3_piece (r_C n) a b μ else if t = 2 then F_X3_negated (r_C n) a b μ else if t = 3 then F_X3_enclosed (r_C n) a b μ else F_X3_side (r_C n) a b c μ
set_option maxRecDepth 100000 in
set_option maxHeartbeats 4000000 in
theorem c_rec_C {Y : SYS} (hC : IsC Y) (hY : HasX Y) : ∀ n : Nat, (∀ {a0 a1 a2 : Int32} {μ m : Mem} {x : Int32}, r_C n 0 a0 a1 a2 μ = some (x, m) → KC Y yX3_level cX3_level 6 (some .boolean) (5 + n) [.ref (sq Y 38), .int a0, .int a1, .int a2] μ (some (.int x)) m) ∧ (∀ {a0 a1 : Int32} {μ m : Mem} {x : Int32}, r_C n 1 a0 a1 0 μ = some (x, m) → KC Y yX3_piece cX3_piece 3 (some .boolean) (5 + n) [.ref (sq Y 38), .int a0, .int a1] μ (some (.int x)) m) ∧ (∀ {a0 a1 : Int32} {μ m : Mem} {x : Int32}, r_C n 2 a0 a1 0 μ = some (x, m) → KC Y yX3_negated cX3_negated 3 (some .boolean) (5 + n) [.ref (sq Y 38), .int a0, .int a1] μ (some (.int x)) m) ∧ (∀ {a0 a1 : Int32} {μ m : Mem} {x : Int32}, r_C n 3 a0 a1 0 μ = some (x, m) → KC Y yX3_enclosed cX3_enclosed 3 (some .boolean) (5 + n) [.ref (sq Y 38), .int a0, .int a1] μ (some (.int x)) m) ∧ (∀ {a0 a1 a2 : Int32} {μ m : Mem} {x : Int32}, r_C n 4 a0 a1 a2 μ = some (x, m) → KC Y yX3_side cX3_side 4 (some .boolean) (5 + n) [.ref (sq Y 38), .int a0, .int a1, .int a2] μ (some (.int x)) m) := by
  intro n
  induction n with
  | zero => exact ⟨(fun h => by rw [r_C] at h; cases h), (fun h => by rw [r_C] at h; cases h), (fun h => by rw [r_C] at h; cases h), (fun h => by rw [r_C] at h; cases h), (fun h => by rw [r_C] at h; cases h)⟩
  | succ n ih =>
    obtain ⟨i0, i1, i2, i3, i4⟩ := ih
    refine ⟨?_, ?_, ?_, ?_, ?_⟩
    · intro a0 a1 a2 μ m x h
      rw [r_C, if_pos rfl] at h
      exact o_X3_level hC hY i4 h
    · intro a0 a1 μ m x h
      rw [r_C, if_neg (by decide), if_pos rfl] at h
      exact o_X3_piece hC hY i2 i3 h
    · intro a0 a1 μ m x h
      rw [r_C, if_neg (by decide), if_neg (by decide), if_pos rfl] at h
      exact o_X3_negated hC hY i1 h
    · intro a0 a1 μ m x h
      rw [r_C, if_neg (by decide), if_neg (by decide), if_neg (by decide), if_pos rfl] at h
      exact o_X3_enclosed hC hY i0 h
    · intro a0 a1 a2 μ m x h
      rw [r_C, if_neg (by decide), if_neg (by decide), if_neg (by decide), if_neg (by decide)] at h
      exact o_X3_side hC hY i0 i1 h
def f_X3_level (a0 : Int32) (a1 : Int32) (a2 : Int32) (μ : Mem) : Option (Int32 × Mem) := r_C 200 0 a0 a1 a2 μ
theorem c_X3_level {Y : SYS} (hC : IsC Y) (hY : HasX Y) {a0 : Int32} {a1 : Int32} {a2 : Int32} {μ m : Mem} {x : Int32} (hf : f_X3_level a0 a1 a2 μ = some (x, m)) : KC Y yX3_level cX3_level 6 (some .boolean) 205 [.ref (sq Y 38), .int a0, .int a1, .int a2] μ (some (.int x)) m := (c_rec_C hC hY 200).1 hf
def f_X3_read (μ : Mem) : Option (Int32 × Mem) :=
  nm (mset μ 38 3 0) fun m1 =>
  nm (mset m1 38 4 0) fun m2 =>
  nm (mset m2 38 7 0) fun m3 =>
  nm (mset m3 38 8 0) fun m4 =>
  bn1 (f_X3_next m4) fun m5 =>
  bn1 (f_X3_keyHere m5) fun v6 =>
  nm (mset m5 38 6 v6) fun m7 =>
  if 0 ≤ (m7 38 6) then
    bn1 (f_X3_next m7) fun m8 =>
    bn2 (f_X3_level 0 0 0 m8) fun v9 m10 =>
    if v9 = 0 then
      some (0, m10)
    else
      if (m10 38 3) < (m10 38 2) then
        some (0, m10)
      else
        some (1, m10)
  else
    some (0, m7)
set_option maxRecDepth 100000 in
set_option maxHeartbeats 4000000 in
theorem c_X3_read {Y : SYS} (hC : IsC Y) (hY : HasX Y) {μ : Mem} {x : Int32} {m : Mem} (hf : f_X3_read μ = some (x, m)) : KC Y yX3_read cX3_read 1 (some .boolean) 206 [.ref (sq Y 38)] μ (some (.int x)) m := by
  refine KC.Z RX3 [(0, .ref (sq Y 38))] (by decide) rfl (Nat.le_of_ble_eq_true rfl) rfl (fun G Γ ret => ?_)
  unfold f_X3_read at hf
  refine g_aload_n Γ (pc := 0) 0 dX3_read_0 rfl rfl ?_
  refine g_iconst Γ (pc := 1) (v := 0) dX3_read_1 rfl ?_
  refine g_put Γ (pc := 2) dX3_read_2 (C_reader hC) fw_X3_22 (Nat.le_of_ble_eq_true rfl) rfl ?_
  refine g_nmm hf (fun m1 hf => ?_)
  refine g_aload_n Γ (pc := 5) 0 dX3_read_5 rfl rfl ?_
  refine g_iconst Γ (pc := 6) (v := 0) dX3_read_6 rfl ?_
  refine g_put Γ (pc := 7) dX3_read_7 (C_reader hC) fw_X3_25 (Nat.le_of_ble_eq_true rfl) rfl ?_
  refine g_nmm hf (fun m2 hf => ?_)
  refine g_aload_n Γ (pc := 10) 0 dX3_read_10 rfl rfl ?_
  refine g_iconst Γ (pc := 11) (v := 0) dX3_read_11 rfl ?_
  refine g_put Γ (pc := 12) dX3_read_12 (C_reader hC) fw_X3_35 (Nat.le_of_ble_eq_true rfl) rfl ?_
  refine g_nmm hf (fun m3 hf => ?_)
  refine g_aload_n Γ (pc := 15) 0 dX3_read_15 rfl rfl ?_
  refine g_iconst Γ (pc := 16) (v := 0) dX3_read_16 rfl ?_
  refine g_put Γ (pc := 17) dX3_read_17 (C_reader hC) fw_X3_38 (Nat.le_of_ble_eq_true rfl) rfl ?_
  refine g_nmm hf (fun m4 hf => ?_)
  refine g_aload_n Γ (pc := 20) 0 dX3_read_20 rfl rfl ?_
  obtain ⟨m5, h1, hf⟩ := bn1_i hf
  refine g_callVV Γ (pc := 21) (as := []) (st := []) dX3_read_21 (c_X3_next hC h1) (C_reader hC) rfl mi_X3_next mv_X3_next kM_X3_41 rfl ⟨Nat.le_of_ble_eq_true rfl, Nat.le_of_ble_eq_true rfl⟩ rfl (Nat.le_of_ble_eq_true rfl) ?_
  refine g_aload_n Γ (pc := 24) 0 dX3_read_24 rfl rfl ?_
  refine g_aload_n Γ (pc := 25) 0 dX3_read_25 rfl rfl ?_
  obtain ⟨v6, h1, hf⟩ := bn1_i hf
  refine g_callVI Γ (pc := 26) (as := []) (st := [.ref (sq Y 38)]) dX3_read_26 (c_X3_keyHere hC hY h1) (C_reader hC) rfl mi_X3_keyHere mv_X3_keyHere kM_X3_44 rfl ⟨Nat.le_of_ble_eq_true rfl, Nat.le_of_ble_eq_true rfl⟩ rfl (Nat.le_of_ble_eq_true rfl) ?_
  refine g_put Γ (pc := 29) dX3_read_29 (C_reader hC) fw_X3_32 (Nat.le_of_ble_eq_true rfl) rfl ?_
  refine g_nmm hf (fun m7 hf => ?_)
  refine g_aload_n Γ (pc := 32) 0 dX3_read_32 rfl rfl ?_
  refine g_get Γ (pc := 33) (v := .int (m7 38 6)) dX3_read_33 (C_reader hC) fr_X3_32 rfl ?_
  refine g_if_ge Γ (pc := 36) (tgt := 41) dX3_read_36 rfl hf (fun hf => ?_) (fun hf => ?_)
  · refine g_aload_n Γ (pc := 41) 0 dX3_read_41 rfl rfl ?_
    obtain ⟨m8, h1, hf⟩ := bn1_i hf
    refine g_callVV Γ (pc := 42) (as := []) (st := []) dX3_read_42 (c_X3_next hC h1) (C_reader hC) rfl mi_X3_next mv_X3_next kM_X3_41 rfl ⟨Nat.le_of_ble_eq_true rfl, Nat.le_of_ble_eq_true rfl⟩ rfl (Nat.le_of_ble_eq_true rfl) ?_
    refine g_aload_n Γ (pc := 45) 0 dX3_read_45 rfl rfl ?_
    refine g_iconst Γ (pc := 46) (v := 0) dX3_read_46 rfl ?_
    refine g_iconst Γ (pc := 47) (v := 0) dX3_read_47 rfl ?_
    refine g_iconst Γ (pc := 48) (v := 0) dX3_read_48 rfl ?_
    obtain ⟨v9, m10, h1, hf⟩ := bn2_i hf
    refine g_callVI Γ (pc := 49) (as := [.int 0, .int 0, .int 0]) (st := []) dX3_read_49 (c_X3_level hC hY h1) (C_reader hC) rfl mi_X3_level mv_X3_level kM_X3_48 rfl ⟨Nat.le_of_ble_eq_true rfl, Nat.le_of_ble_eq_true rfl⟩ rfl (Nat.le_of_ble_eq_true rfl) ?_
    refine g_if_eq Γ (pc := 52) (tgt := 70) dX3_read_52 rfl hf (fun hf => ?_) (fun hf => ?_)
    · refine g_iconst Γ (pc := 70) (v := 0) dX3_read_70 rfl ?_
      exact rZk ret dX3_read_71 (Or.inl rfl) hf
    · refine g_aload_n Γ (pc := 55) 0 dX3_read_55 rfl rfl ?_
      refine g_get Γ (pc := 56) (v := .int (m10 38 3)) dX3_read_56 (C_reader hC) fr_X3_22 rfl ?_
      refine g_aload_n Γ (pc := 59) 0 dX3_read_59 rfl rfl ?_
      refine g_get Γ (pc := 60) (v := .int (m10 38 2)) dX3_read_60 (C_reader hC) fr_X3_18 rfl ?_
      refine g_icmp_lt Γ (pc := 63) (tgt := 70) dX3_read_63 rfl hf (fun hf => ?_) (fun hf => ?_)
      · refine g_iconst Γ (pc := 70) (v := 0) dX3_read_70 rfl ?_
        exact rZk ret dX3_read_71 (Or.inl rfl) hf
      · refine g_iconst Γ (pc := 66) (v := 1) dX3_read_66 rfl ?_
        refine g_goto Γ (pc := 67) (tgt := 71) dX3_read_67 rfl ?_
        exact rZk ret dX3_read_71 (Or.inr rfl) hf
  · refine g_iconst Γ (pc := 39) (v := 0) dX3_read_39 rfl ?_
    exact rZk ret dX3_read_40 (Or.inl rfl) hf
