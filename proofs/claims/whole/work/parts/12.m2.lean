def f_X8_pays (a0 : Int32) (a1 : Int32) (μ : Mem) : Option (Mem) :=
  bn1 (f_X8_of a0 3 μ) fun v1 =>
  bn1 (f_X8_within (v1 - a1) (-9999) 9999) fun v2 =>
  bn1 (f_X8_sets a0 3 v2 μ) fun m3 =>
  bn1 (ldM (m3 1) 3059 3) fun v4 =>
  bn1 (stM m3 1 3059 3 (v4 + a1)) fun m5 =>
  some m5
set_option maxRecDepth 100000 in
set_option maxHeartbeats 4000000 in
theorem c_X8_pays {Y : SYS} (hM : IsM Y) {a0 : Int32} {a1 : Int32} {μ : Mem} {m : Mem} (hf : f_X8_pays a0 a1 μ = some m) : KC Y yX8_pays cX8_pays 3 none 1 [.ref (sq Y 0), .int a0, .int a1] μ none m := by
  refine KC.V RX8 [(0, .ref (sq Y 0)), (1, .int a0), (2, .int a1)] (by decide) rfl (Nat.le_of_ble_eq_true rfl) rfl (fun G Γ ret => ?_)
  unfold f_X8_pays at hf
  refine g_aload_n Γ (pc := 0) 0 dX8_pays_0 rfl rfl ?_
  refine g_iload_n Γ (pc := 1) 1 dX8_pays_1 rfl rfl ?_
  refine g_iconst Γ (pc := 2) (v := 3) dX8_pays_2 rfl ?_
  refine g_aload_n Γ (pc := 3) 0 dX8_pays_3 rfl rfl ?_
  refine g_iload_n Γ (pc := 4) 1 dX8_pays_4 rfl rfl ?_
  refine g_iconst Γ (pc := 5) (v := 3) dX8_pays_5 rfl ?_
  obtain ⟨v1, h1, hf⟩ := bn1_i hf
  refine g_callVI Γ (pc := 6) (as := [.int a0, .int 3]) (st := [.int 3, .int a0, .ref (sq Y 0)]) dX8_pays_6 (c_X8_of hM h1) (M_obj hM) rfl mi_X8_of mv_X8_of kM_X8_83 rfl ⟨Nat.le_of_ble_eq_true rfl, Nat.le_of_ble_eq_true rfl⟩ rfl (Nat.le_of_ble_eq_true rfl) ?_
  refine g_iload_n Γ (pc := 9) 2 dX8_pays_9 rfl rfl ?_
  refine g_isub Γ (pc := 10) dX8_pays_10 ?_
  refine g_sipush Γ (pc := 11) (v := (-9999)) dX8_pays_11 rfl ?_
  refine g_sipush Γ (pc := 14) (v := 9999) dX8_pays_14 rfl ?_
  obtain ⟨v2, h1, hf⟩ := bn1_i hf
  refine g_callSI Γ (pc := 17) (as := [.int (v1 - a1), .int (-9999), .int 9999]) (st := [.int 3, .int a0, .ref (sq Y 0)]) dX8_pays_17 (c_X8_within h1) mi_X8_within ms_X8_within kM_X8_110 rfl ⟨Nat.le_of_ble_eq_true rfl, Nat.le_of_ble_eq_true rfl⟩ rfl (Nat.le_of_ble_eq_true rfl) ?_
  obtain ⟨m3, h1, hf⟩ := bn1_i hf
  refine g_callVV Γ (pc := 20) (as := [.int a0, .int 3, .int v2]) (st := []) dX8_pays_20 (c_X8_sets hM h1) (M_obj hM) rfl mi_X8_sets mv_X8_sets kM_X8_70 rfl ⟨Nat.le_of_ble_eq_true rfl, Nat.le_of_ble_eq_true rfl⟩ rfl (Nat.le_of_ble_eq_true rfl) ?_
  refine g_aload_n Γ (pc := 23) 0 dX8_pays_23 rfl rfl ?_
  refine g_get Γ (pc := 24) (v := .ref (sq Y 1)) dX8_pays_24 (M_obj hM) fr_X8_7 rfl ?_
  refine g_iconst Γ (pc := 27) (v := 3) dX8_pays_27 rfl ?_
  refine g_dup2 Γ (pc := 28) dX8_pays_28 rfl rfl ?_
  refine g_iald Γ (pc := 29) dX8_pays_29 (M_1 hM) hf (fun v4 hf => ?_)
  refine g_iload_n Γ (pc := 30) 2 dX8_pays_30 rfl rfl ?_
  refine g_iadd Γ (pc := 31) dX8_pays_31 ?_
  refine g_iast Γ (pc := 32) dX8_pays_32 (M_1 hM) hf (fun m5 hf => ?_)
  exact rV ret dX8_pays_33 hf
def f_X8_worst_K4_47 (y1_1 : Int32) : Option (Int32) :=
  some y1_1
def f_X8_worst_J40 (x2_3 : Int32) (s7 : Int32) : Option ((Int32 × Int32) ⊕ Int32) :=
  some (.inl (s7, x2_3 + 1))
def f_X8_worst_J32 (x1_2 : Int32) (x2_3 : Int32) (v5 : Int32) (s6 : Int32) : Option ((Int32 × Int32) ⊕ Int32) :=
  if v5 ≤ s6 then
    f_X8_worst_J40 x2_3 x1_2
  else
    f_X8_worst_J40 x2_3 x2_3
def f_X8_worst_L4 (μ : Mem) (x1_2 : Int32) (x2_3 : Int32) : Option ((Int32 × Int32) ⊕ Int32) :=
  bn1 (ldM (μ 1) 3059 0) fun v4 =>
  if v4 ≤ x2_3 then
    some (.inr x1_2)
  else
    bn1 (f_X8_offOf x2_3 μ) fun v5 =>
    if 0 ≤ x1_2 then
      bn1 (f_X8_offOf x1_2 μ) fun v8 =>
      f_X8_worst_J32 x1_2 x2_3 v5 v8
    else
      f_X8_worst_J32 x1_2 x2_3 v5 0
def f_X8_worst (μ : Mem) : Option (Int32) :=
  bn1 (lpF (fun v => f_X8_worst_L4 μ v.1 v.2) 4000 ((-1), 0)) (fun x => f_X8_worst_K4_47 x)
set_option maxRecDepth 100000 in
set_option maxHeartbeats 4000000 in
theorem c_X8_worst {Y : SYS} (hM : IsM Y) {μ : Mem} {x : Int32} (hf : f_X8_worst μ = some x) : KC Y yX8_worst cX8_worst 3 (some .int) 3 [.ref (sq Y 0)] μ (some (.int x)) μ := by
  refine KC.I RX8 [(0, .ref (sq Y 0))] (by decide) rfl (Nat.le_of_ble_eq_true rfl) rfl (fun G Γ ret => ?_)
  unfold f_X8_worst at hf
  refine g_iconst Γ (pc := 0) (v := (-1)) dX8_worst_0 rfl ?_
  refine g_istore_n Γ (pc := 1) (lv' := [(1, .int (-1)), (0, .ref (sq Y 0))]) dX8_worst_1 rfl (by decide) rfl ?_
  refine g_iconst Γ (pc := 2) (v := 0) dX8_worst_2 rfl ?_
  refine g_istore_n Γ (pc := 3) (lv' := [(2, .int 0), (1, .int (-1)), (0, .ref (sq Y 0))]) dX8_worst_3 rfl (by decide) rfl ?_
  have K_4_47 : ∀ (y1_1 : Int32), f_X8_worst_K4_47 y1_1 = some x → G 47 [(1, .int y1_1)] [] μ := by
    intro y1_1 hf
    unfold f_X8_worst_K4_47 at hf
    refine g_iload_n Γ (pc := 47) 0 dX8_worst_47 rfl rfl ?_
    exact rIr ret dX8_worst_48 hf
  refine g_sub Γ [2, 1, 0] rfl ?_
  refine lpF_s (P := fun (v : Int32 × Int32) => G 4 [(0, .ref (sq Y 0)), (1, .int v.1), (2, .int v.2)] [] μ) hf (fun v z1 hf kI1 kX1 => ?_)
  obtain ⟨x1_2, x2_3⟩ := v
  replace hf : f_X8_worst_L4 μ x1_2 x2_3 = some z1 := hf
  show G 4 [(0, .ref (sq Y 0)), (1, .int x1_2), (2, .int x2_3)] [] μ
  unfold f_X8_worst_L4 at hf
  refine g_iload_n Γ (pc := 4) 2 dX8_worst_4 rfl rfl ?_
  refine g_aload_n Γ (pc := 5) 0 dX8_worst_5 rfl rfl ?_
  refine g_get Γ (pc := 6) (v := .ref (sq Y 1)) dX8_worst_6 (M_obj hM) fr_X8_7 rfl ?_
  refine g_iconst Γ (pc := 9) (v := 0) dX8_worst_9 rfl ?_
  refine g_iald Γ (pc := 10) dX8_worst_10 (M_1 hM) hf (fun v4 hf => ?_)
  refine g_icmp_ge Γ (pc := 11) (tgt := 47) dX8_worst_11 rfl hf (fun hf => ?_) (fun hf => ?_)
  · refine g_sub Γ [1] rfl ?_
    exact K_4_47 x1_2 (kX1 x1_2 (Option.some.inj hf).symm)
  · refine g_aload_n Γ (pc := 14) 0 dX8_worst_14 rfl rfl ?_
    refine g_iload_n Γ (pc := 15) 2 dX8_worst_15 rfl rfl ?_
    obtain ⟨v5, h1, hf⟩ := bn1_i hf
    refine g_callVI Γ (pc := 16) (as := [.int x2_3]) (st := []) dX8_worst_16 (c_X8_offOf hM h1) (M_obj hM) rfl mi_X8_offOf mv_X8_offOf kM_X8_101 rfl ⟨Nat.le_of_ble_eq_true rfl, Nat.le_of_ble_eq_true rfl⟩ rfl (Nat.le_of_ble_eq_true rfl) ?_
    refine g_iload_n Γ (pc := 19) 1 dX8_worst_19 rfl rfl ?_
    have J_32 : ∀ (s6 : Int32), f_X8_worst_J32 x1_2 x2_3 v5 s6 = some z1 → G 32 [(0, .ref (sq Y 0)), (1, .int x1_2), (2, .int x2_3)] [.int s6, .int v5] μ := by
      intro s6 hf
      unfold f_X8_worst_J32 at hf
      have J_40 : ∀ (s7 : Int32), f_X8_worst_J40 x2_3 s7 = some z1 → G 40 [(0, .ref (sq Y 0)), (2, .int x2_3)] [.int s7] μ := by
        intro s7 hf
        unfold f_X8_worst_J40 at hf
        refine g_istore_n Γ (pc := 40) (lv' := [(1, .int s7), (0, .ref (sq Y 0)), (2, .int x2_3)]) dX8_worst_40 rfl (by decide) rfl ?_
        refine g_iinc Γ (pc := 41) (v := x2_3 + 1) (lv' := [(2, .int (x2_3 + 1)), (1, .int s7), (0, .ref (sq Y 0))]) 2 dX8_worst_41 rfl rfl (by decide) rfl ?_
        refine g_goto Γ (pc := 44) (tgt := 4) dX8_worst_44 rfl ?_
        refine g_sub Γ [2, 1, 0] rfl ?_
        exact kI1 (s7, x2_3 + 1) (Option.some.inj hf).symm
      refine g_icmp_le Γ (pc := 32) (tgt := 39) dX8_worst_32 rfl hf (fun hf => ?_) (fun hf => ?_)
      · refine g_iload_n Γ (pc := 39) 1 dX8_worst_39 rfl rfl ?_
        refine g_sub Γ [0, 2] rfl ?_
        exact J_40 x1_2 hf
      · refine g_iload_n Γ (pc := 35) 2 dX8_worst_35 rfl rfl ?_
        refine g_goto Γ (pc := 36) (tgt := 40) dX8_worst_36 rfl ?_
        refine g_sub Γ [0, 2] rfl ?_
        exact J_40 x2_3 hf
    refine g_if_ge Γ (pc := 20) (tgt := 27) dX8_worst_20 rfl hf (fun hf => ?_) (fun hf => ?_)
    · refine g_aload_n Γ (pc := 27) 0 dX8_worst_27 rfl rfl ?_
      refine g_iload_n Γ (pc := 28) 1 dX8_worst_28 rfl rfl ?_
      obtain ⟨v8, h1, hf⟩ := bn1_i hf
      refine g_callVI Γ (pc := 29) (as := [.int x1_2]) (st := [.int v5]) dX8_worst_29 (c_X8_offOf hM h1) (M_obj hM) rfl mi_X8_offOf mv_X8_offOf kM_X8_101 rfl ⟨Nat.le_of_ble_eq_true rfl, Nat.le_of_ble_eq_true rfl⟩ rfl (Nat.le_of_ble_eq_true rfl) ?_
      refine g_sub Γ [0, 1, 2] rfl ?_
      exact J_32 v8 hf
    · refine g_iconst Γ (pc := 23) (v := 0) dX8_worst_23 rfl ?_
      refine g_goto Γ (pc := 24) (tgt := 32) dX8_worst_24 rfl ?_
      refine g_sub Γ [0, 1, 2] rfl ?_
      exact J_32 0 hf
def f_X8_lookedAt (μ : Mem) : Option (Int32 × Mem) :=
  bn1 (ldM (μ 1) 3059 7) fun v1 =>
  if v1 = 1 then
    bn1 (f_X8_worst μ) fun v8 =>
    some (v8, μ)
  else
    bn1 (ldM (μ 1) 3059 7) fun v2 =>
    if v2 = 2 then
      bn1 (ldM (μ 1) 3059 0) fun v3 =>
      if v3 ≤ 0 then
        some ((-1), μ)
      else
        bn2 (f_X8_drawn μ) fun v4 m5 =>
        bn1 (ldM (m5 1) 3059 0) fun v6 =>
        bn1 (rmM v4 v6) fun v7 =>
        some (v7, m5)
    else
      some ((-1), μ)
set_option maxRecDepth 100000 in
set_option maxHeartbeats 4000000 in
theorem c_X8_lookedAt {Y : SYS} (hM : IsM Y) {μ : Mem} {x : Int32} {m : Mem} (hf : f_X8_lookedAt μ = some (x, m)) : KC Y yX8_lookedAt cX8_lookedAt 1 (some .int) 4 [.ref (sq Y 0)] μ (some (.int x)) m := by
  refine KC.I RX8 [(0, .ref (sq Y 0))] (by decide) rfl (Nat.le_of_ble_eq_true rfl) rfl (fun G Γ ret => ?_)
  unfold f_X8_lookedAt at hf
  refine g_aload_n Γ (pc := 0) 0 dX8_lookedAt_0 rfl rfl ?_
  refine g_get Γ (pc := 1) (v := .ref (sq Y 1)) dX8_lookedAt_1 (M_obj hM) fr_X8_7 rfl ?_
  refine g_bipush Γ (pc := 4) (v := 7) dX8_lookedAt_4 rfl ?_
  refine g_iald Γ (pc := 6) dX8_lookedAt_6 (M_1 hM) hf (fun v1 hf => ?_)
  refine g_iconst Γ (pc := 7) (v := 1) dX8_lookedAt_7 rfl ?_
  refine g_icmp_ne Γ (pc := 8) (tgt := 16) dX8_lookedAt_8 rfl hf (fun hf => ?_) (fun hf => ?_)
  · refine g_aload_n Γ (pc := 16) 0 dX8_lookedAt_16 rfl rfl ?_
    refine g_get Γ (pc := 17) (v := .ref (sq Y 1)) dX8_lookedAt_17 (M_obj hM) fr_X8_7 rfl ?_
    refine g_bipush Γ (pc := 20) (v := 7) dX8_lookedAt_20 rfl ?_
    refine g_iald Γ (pc := 22) dX8_lookedAt_22 (M_1 hM) hf (fun v2 hf => ?_)
    refine g_iconst Γ (pc := 23) (v := 2) dX8_lookedAt_23 rfl ?_
    refine g_icmp_ne Γ (pc := 24) (tgt := 50) dX8_lookedAt_24 rfl hf (fun hf => ?_) (fun hf => ?_)
    · refine g_iconst Γ (pc := 50) (v := (-1)) dX8_lookedAt_50 rfl ?_
      exact rI ret dX8_lookedAt_51 hf
    · refine g_aload_n Γ (pc := 27) 0 dX8_lookedAt_27 rfl rfl ?_
      refine g_get Γ (pc := 28) (v := .ref (sq Y 1)) dX8_lookedAt_28 (M_obj hM) fr_X8_7 rfl ?_
      refine g_iconst Γ (pc := 31) (v := 0) dX8_lookedAt_31 rfl ?_
      refine g_iald Γ (pc := 32) dX8_lookedAt_32 (M_1 hM) hf (fun v3 hf => ?_)
      refine g_if_le Γ (pc := 33) (tgt := 50) dX8_lookedAt_33 rfl hf (fun hf => ?_) (fun hf => ?_)
      · refine g_iconst Γ (pc := 50) (v := (-1)) dX8_lookedAt_50 rfl ?_
        exact rI ret dX8_lookedAt_51 hf
      · refine g_aload_n Γ (pc := 36) 0 dX8_lookedAt_36 rfl rfl ?_
        obtain ⟨v4, m5, h1, hf⟩ := bn2_i hf
        refine g_callVI Γ (pc := 37) (as := []) (st := []) dX8_lookedAt_37 (c_X8_drawn hM h1) (M_obj hM) rfl mi_X8_drawn mv_X8_drawn kM_X8_155 rfl ⟨Nat.le_of_ble_eq_true rfl, Nat.le_of_ble_eq_true rfl⟩ rfl (Nat.le_of_ble_eq_true rfl) ?_
        refine g_aload_n Γ (pc := 40) 0 dX8_lookedAt_40 rfl rfl ?_
        refine g_get Γ (pc := 41) (v := .ref (sq Y 1)) dX8_lookedAt_41 (M_obj hM) fr_X8_7 rfl ?_
        refine g_iconst Γ (pc := 44) (v := 0) dX8_lookedAt_44 rfl ?_
        refine g_iald Γ (pc := 45) dX8_lookedAt_45 (M_1 hM) hf (fun v6 hf => ?_)
        refine g_irem Γ (pc := 46) dX8_lookedAt_46 hf (fun v7 hf => ?_)
        refine g_goto Γ (pc := 47) (tgt := 51) dX8_lookedAt_47 rfl ?_
        exact rI ret dX8_lookedAt_51 hf
  · refine g_aload_n Γ (pc := 11) 0 dX8_lookedAt_11 rfl rfl ?_
    obtain ⟨v8, h1, hf⟩ := bn1_i hf
    refine g_callVI Γ (pc := 12) (as := []) (st := []) dX8_lookedAt_12 (c_X8_worst hM h1) (M_obj hM) rfl mi_X8_worst mv_X8_worst kM_X8_186 rfl ⟨Nat.le_of_ble_eq_true rfl, Nat.le_of_ble_eq_true rfl⟩ rfl (Nat.le_of_ble_eq_true rfl) ?_
    exact rI ret dX8_lookedAt_15 hf
def f_X8_around_K5_53 (y3_1 : Int32) : Option (Int32) :=
  some y3_1
def f_X8_around_J45 (x3_2 : Int32) (x4_3 : Int32) (s5 : Int32) : Option ((Int32 × Int32) ⊕ Int32) :=
  some (.inl ((x3_2 + s5), x4_3 + 1))
def f_X8_around_J34 (a1 : Int32) (μ : Mem) (x3_2 : Int32) (x4_3 : Int32) : Option ((Int32 × Int32) ⊕ Int32) :=
  bn1 (f_X8_offBy x4_3 a1 μ) fun v6 =>
  f_X8_around_J45 x3_2 x4_3 v6
def f_X8_around_L5 (a0 : Int32) (a1 : Int32) (μ : Mem) (x3_2 : Int32) (x4_3 : Int32) : Option ((Int32 × Int32) ⊕ Int32) :=
  bn1 (ldM (μ 1) 3059 0) fun v4 =>
  if v4 ≤ x4_3 then
    some (.inr x3_2)
  else
    if x4_3 = a0 then
      f_X8_around_J34 a1 μ x3_2 x4_3
    else
      bn1 (f_X8_areFriends a0 x4_3 μ) fun v7 =>
      if v7 = 1 then
        f_X8_around_J34 a1 μ x3_2 x4_3
      else
        f_X8_around_J45 x3_2 x4_3 0
def f_X8_around (a0 : Int32) (a1 : Int32) (μ : Mem) : Option (Int32) :=
  bn1 (lpF (fun v => f_X8_around_L5 a0 a1 μ v.1 v.2) 4000 (0, 0)) (fun x => f_X8_around_K5_53 x)
set_option maxRecDepth 100000 in
set_option maxHeartbeats 4000000 in
theorem c_X8_around {Y : SYS} (hM : IsM Y) {a0 : Int32} {a1 : Int32} {μ : Mem} {x : Int32} (hf : f_X8_around a0 a1 μ = some x) : KC Y yX8_around cX8_around 5 (some .int) 2 [.ref (sq Y 0), .int a0, .int a1] μ (some (.int x)) μ := by
  refine KC.I RX8 [(0, .ref (sq Y 0)), (1, .int a0), (2, .int a1)] (by decide) rfl (Nat.le_of_ble_eq_true rfl) rfl (fun G Γ ret => ?_)
  unfold f_X8_around at hf
  refine g_iconst Γ (pc := 0) (v := 0) dX8_around_0 rfl ?_
  refine g_istore_n Γ (pc := 1) (lv' := [(3, .int 0), (0, .ref (sq Y 0)), (1, .int a0), (2, .int a1)]) dX8_around_1 rfl (by decide) rfl ?_
  refine g_iconst Γ (pc := 2) (v := 0) dX8_around_2 rfl ?_
  refine g_istore Γ (pc := 3) (lv' := [(4, .int 0), (3, .int 0), (0, .ref (sq Y 0)), (1, .int a0), (2, .int a1)]) dX8_around_3 (by decide) rfl ?_
  have K_5_53 : ∀ (y3_1 : Int32), f_X8_around_K5_53 y3_1 = some x → G 53 [(3, .int y3_1)] [] μ := by
    intro y3_1 hf
    unfold f_X8_around_K5_53 at hf
    refine g_iload_n Γ (pc := 53) 0 dX8_around_53 rfl rfl ?_
    exact rIr ret dX8_around_54 hf
  refine g_sub Γ [2, 3, 4, 1, 0] rfl ?_
  refine lpF_s (P := fun (v : Int32 × Int32) => G 5 [(0, .ref (sq Y 0)), (1, .int a0), (2, .int a1), (3, .int v.1), (4, .int v.2)] [] μ) hf (fun v z1 hf kI1 kX1 => ?_)
  obtain ⟨x3_2, x4_3⟩ := v
  replace hf : f_X8_around_L5 a0 a1 μ x3_2 x4_3 = some z1 := hf
  show G 5 [(0, .ref (sq Y 0)), (1, .int a0), (2, .int a1), (3, .int x3_2), (4, .int x4_3)] [] μ
  unfold f_X8_around_L5 at hf
  refine g_iload Γ (pc := 5) 4 dX8_around_5 rfl ?_
  refine g_aload_n Γ (pc := 7) 0 dX8_around_7 rfl rfl ?_
  refine g_get Γ (pc := 8) (v := .ref (sq Y 1)) dX8_around_8 (M_obj hM) fr_X8_7 rfl ?_
  refine g_iconst Γ (pc := 11) (v := 0) dX8_around_11 rfl ?_
  refine g_iald Γ (pc := 12) dX8_around_12 (M_1 hM) hf (fun v4 hf => ?_)
  refine g_icmp_ge Γ (pc := 13) (tgt := 53) dX8_around_13 rfl hf (fun hf => ?_) (fun hf => ?_)
  · refine g_sub Γ [3] rfl ?_
    exact K_5_53 x3_2 (kX1 x3_2 (Option.some.inj hf).symm)
  · refine g_iload_n Γ (pc := 16) 3 dX8_around_16 rfl rfl ?_
    refine g_iload Γ (pc := 17) 4 dX8_around_17 rfl ?_
    refine g_iload_n Γ (pc := 19) 1 dX8_around_19 rfl rfl ?_
    have J_45 : ∀ (s5 : Int32), f_X8_around_J45 x3_2 x4_3 s5 = some z1 → G 45 [(0, .ref (sq Y 0)), (1, .int a0), (2, .int a1), (4, .int x4_3)] [.int s5, .int x3_2] μ := by
      intro s5 hf
      unfold f_X8_around_J45 at hf
      refine g_iadd Γ (pc := 45) dX8_around_45 ?_
      refine g_istore_n Γ (pc := 46) (lv' := [(3, .int (x3_2 + s5)), (0, .ref (sq Y 0)), (1, .int a0), (2, .int a1), (4, .int x4_3)]) dX8_around_46 rfl (by decide) rfl ?_
      refine g_iinc Γ (pc := 47) (v := x4_3 + 1) (lv' := [(4, .int (x4_3 + 1)), (3, .int (x3_2 + s5)), (0, .ref (sq Y 0)), (1, .int a0), (2, .int a1)]) 4 dX8_around_47 rfl rfl (by decide) rfl ?_
      refine g_goto Γ (pc := 50) (tgt := 5) dX8_around_50 rfl ?_
      refine g_sub Γ [2, 3, 4, 1, 0] rfl ?_
      exact kI1 ((x3_2 + s5), x4_3 + 1) (Option.some.inj hf).symm
    have J_34 : f_X8_around_J34 a1 μ x3_2 x4_3 = some z1 → G 34 [(0, .ref (sq Y 0)), (1, .int a0), (2, .int a1), (4, .int x4_3)] [.int x3_2] μ := by
      intro hf
      unfold f_X8_around_J34 at hf
      refine g_aload_n Γ (pc := 34) 0 dX8_around_34 rfl rfl ?_
      refine g_iload Γ (pc := 35) 3 dX8_around_35 rfl ?_
      refine g_iload_n Γ (pc := 37) 2 dX8_around_37 rfl rfl ?_
      obtain ⟨v6, h1, hf⟩ := bn1_i hf
      refine g_callVI Γ (pc := 38) (as := [.int x4_3, .int a1]) (st := [.int x3_2]) dX8_around_38 (c_X8_offBy hM h1) (M_obj hM) rfl mi_X8_offBy mv_X8_offBy kM_X8_98 rfl ⟨Nat.le_of_ble_eq_true rfl, Nat.le_of_ble_eq_true rfl⟩ rfl (Nat.le_of_ble_eq_true rfl) ?_
      refine g_goto Γ (pc := 41) (tgt := 45) dX8_around_41 rfl ?_
      refine g_sub Γ [0, 1, 2, 3] rfl ?_
      exact J_45 v6 hf
    refine g_icmp_eq Γ (pc := 20) (tgt := 34) dX8_around_20 rfl hf (fun hf => ?_) (fun hf => ?_)
    · refine g_sub Γ [0, 1, 2, 4] rfl ?_
      exact J_34 hf
    · refine g_aload_n Γ (pc := 23) 0 dX8_around_23 rfl rfl ?_
      refine g_iload_n Γ (pc := 24) 1 dX8_around_24 rfl rfl ?_
      refine g_iload Γ (pc := 25) 4 dX8_around_25 rfl ?_
      obtain ⟨v7, h1, hf⟩ := bn1_i hf
      refine g_callVI Γ (pc := 27) (as := [.int a0, .int x4_3]) (st := [.int x3_2]) dX8_around_27 (c_X8_areFriends hM h1) (M_obj hM) rfl mi_X8_areFriends mv_X8_areFriends kM_X8_141 rfl ⟨Nat.le_of_ble_eq_true rfl, Nat.le_of_ble_eq_true rfl⟩ rfl (Nat.le_of_ble_eq_true rfl) ?_
      refine g_iconst Γ (pc := 30) (v := 1) dX8_around_30 rfl ?_
      refine g_icmp_ne Γ (pc := 31) (tgt := 44) dX8_around_31 rfl hf (fun hf => ?_) (fun hf => ?_)
      · refine g_iconst Γ (pc := 44) (v := 0) dX8_around_44 rfl ?_
        refine g_sub Γ [0, 1, 2, 4] rfl ?_
        exact J_45 0 hf
      · refine g_sub Γ [0, 1, 2, 4] rfl ?_
        exact J_34 hf
def f_X8_changes (a0 : Int32) (μ : Mem) : Option (Mem) :=
  bn1 (f_X8_of a0 1 μ) fun v1 =>
  bn1 (f_X8_sets a0 1 (1 - v1) μ) fun m2 =>
  bn1 (ldM (m2 1) 3059 4) fun v3 =>
  bn1 (stM m2 1 3059 4 (v3 + 1)) fun m4 =>
  some m4
set_option maxRecDepth 100000 in
set_option maxHeartbeats 4000000 in
theorem c_X8_changes {Y : SYS} (hM : IsM Y) {a0 : Int32} {μ : Mem} {m : Mem} (hf : f_X8_changes a0 μ = some m) : KC Y yX8_changes cX8_changes 2 none 1 [.ref (sq Y 0), .int a0] μ none m := by
  refine KC.V RX8 [(0, .ref (sq Y 0)), (1, .int a0)] (by decide) rfl (Nat.le_of_ble_eq_true rfl) rfl (fun G Γ ret => ?_)
  unfold f_X8_changes at hf
  refine g_aload_n Γ (pc := 0) 0 dX8_changes_0 rfl rfl ?_
  refine g_iload_n Γ (pc := 1) 1 dX8_changes_1 rfl rfl ?_
  refine g_iconst Γ (pc := 2) (v := 1) dX8_changes_2 rfl ?_
  refine g_iconst Γ (pc := 3) (v := 1) dX8_changes_3 rfl ?_
  refine g_aload_n Γ (pc := 4) 0 dX8_changes_4 rfl rfl ?_
  refine g_iload_n Γ (pc := 5) 1 dX8_changes_5 rfl rfl ?_
  refine g_iconst Γ (pc := 6) (v := 1) dX8_changes_6 rfl ?_
  obtain ⟨v1, h1, hf⟩ := bn1_i hf
  refine g_callVI Γ (pc := 7) (as := [.int a0, .int 1]) (st := [.int 1, .int 1, .int a0, .ref (sq Y 0)]) dX8_changes_7 (c_X8_of hM h1) (M_obj hM) rfl mi_X8_of mv_X8_of kM_X8_83 rfl ⟨Nat.le_of_ble_eq_true rfl, Nat.le_of_ble_eq_true rfl⟩ rfl (Nat.le_of_ble_eq_true rfl) ?_
  refine g_isub Γ (pc := 10) dX8_changes_10 ?_
  obtain ⟨m2, h1, hf⟩ := bn1_i hf
  refine g_callVV Γ (pc := 11) (as := [.int a0, .int 1, .int (1 - v1)]) (st := []) dX8_changes_11 (c_X8_sets hM h1) (M_obj hM) rfl mi_X8_sets mv_X8_sets kM_X8_70 rfl ⟨Nat.le_of_ble_eq_true rfl, Nat.le_of_ble_eq_true rfl⟩ rfl (Nat.le_of_ble_eq_true rfl) ?_
  refine g_aload_n Γ (pc := 14) 0 dX8_changes_14 rfl rfl ?_
  refine g_get Γ (pc := 15) (v := .ref (sq Y 1)) dX8_changes_15 (M_obj hM) fr_X8_7 rfl ?_
  refine g_iconst Γ (pc := 18) (v := 4) dX8_changes_18 rfl ?_
  refine g_dup2 Γ (pc := 19) dX8_changes_19 rfl rfl ?_
  refine g_iald Γ (pc := 20) dX8_changes_20 (M_1 hM) hf (fun v3 hf => ?_)
  refine g_iconst Γ (pc := 21) (v := 1) dX8_changes_21 rfl ?_
  refine g_iadd Γ (pc := 22) dX8_changes_22 ?_
  refine g_iast Γ (pc := 23) dX8_changes_23 (M_1 hM) hf (fun m4 hf => ?_)
  exact rV ret dX8_changes_24 hf
def f_X8_goesOn_J155 (m6 : Mem) : Option (Mem) :=
  bn1 (ldM (m6 1) 3059 2) fun v7 =>
  bn1 (stM m6 1 3059 2 (v7 + 1)) fun m8 =>
  some m8
def f_X8_goesOn_J102 (m4 : Mem) : Option (Mem) :=
  bn1 (ldM (m4 1) 3059 0) fun v5 =>
  if v5 ≤ 0 then
    f_X8_goesOn_J155 m4
  else
    bn2 (f_X8_drawn m4) fun v9 m10 =>
    bn1 (rmM v9 100) fun v11 =>
    bn1 (ldM (m10 1) 3059 8) fun v12 =>
    if v12 ≤ v11 then
      f_X8_goesOn_J155 m10
    else
      bn2 (f_X8_drawn m10) fun v13 m14 =>
      bn1 (ldM (m14 1) 3059 0) fun v15 =>
      bn1 (rmM v13 v15) fun v16 =>
      bn1 (f_X8_of v16 0 m14) fun v17 =>
      if v17 = 5 then
        f_X8_goesOn_J155 m14
      else
        bn1 (f_X8_changes v16 m14) fun m18 =>
        f_X8_goesOn_J155 m18
def f_X8_goesOn_K2_43 (m1 : Mem) : Option (Mem) :=
  bn2 (f_X8_lookedAt m1) fun v2 m3 =>
  if v2 < 0 then
    f_X8_goesOn_J102 m3
  else
    bn1 (f_X8_of v2 0 m3) fun v19 =>
    if v19 = 5 then
      f_X8_goesOn_J102 m3
    else
      bn1 (f_X8_forNow m3) fun v20 =>
      bn1 (f_X8_around v2 (v20 ^^^ (1 <<< (v2 &&& 31))) m3) fun v21 =>
      bn1 (f_X8_forNow m3) fun v22 =>
      bn1 (f_X8_around v2 v22 m3) fun v23 =>
      if v23 ≤ v21 then
        f_X8_goesOn_J102 m3
      else
        bn1 (f_X8_changes v2 m3) fun m24 =>
        bn1 (f_X8_asks v2 m24) fun v25 =>
        bn1 (f_X8_pays v2 v25 m24) fun m26 =>
        f_X8_goesOn_J102 m26
def f_X8_goesOn_J37 (x1_27 : Int32) (m32 : Mem) : Option ((Int32 × Mem) ⊕ Mem) :=
  some (.inl (x1_27 + 1, m32))
def f_X8_goesOn_L2 (x1_27 : Int32) (m28 : Mem) : Option ((Int32 × Mem) ⊕ Mem) :=
  bn1 (ldM (m28 1) 3059 0) fun v29 =>
  if v29 ≤ x1_27 then
    some (.inr m28)
  else
    bn1 (f_X8_offOf x1_27 m28) fun v30 =>
    bn1 (ldM (m28 1) 3059 6) fun v31 =>
    if v30 ≤ v31 then
      f_X8_goesOn_J37 x1_27 m28
    else
      bn2 (f_X8_dues x1_27 m28) fun v33 m34 =>
      bn1 (f_X8_pays x1_27 v33 m34) fun m35 =>
      f_X8_goesOn_J37 x1_27 m35
def f_X8_goesOn (μ : Mem) : Option (Mem) :=
  bn1 (lpF (fun v => f_X8_goesOn_L2 v.1 v.2) 4000 (0, μ)) (fun x => f_X8_goesOn_K2_43 x)
set_option maxRecDepth 100000 in
set_option maxHeartbeats 4000000 in
theorem c_X8_goesOn {Y : SYS} (hM : IsM Y) {μ : Mem} {m : Mem} (hf : f_X8_goesOn μ = some m) : KC Y yX8_goesOn cX8_goesOn 3 none 5 [.ref (sq Y 0)] μ none m := by
  refine KC.V RX8 [(0, .ref (sq Y 0))] (by decide) rfl (Nat.le_of_ble_eq_true rfl) rfl (fun G Γ ret => ?_)
  unfold f_X8_goesOn at hf
  refine g_iconst Γ (pc := 0) (v := 0) dX8_goesOn_0 rfl ?_
  refine g_istore_n Γ (pc := 1) (lv' := [(1, .int 0), (0, .ref (sq Y 0))]) dX8_goesOn_1 rfl (by decide) rfl ?_
  have K_2_43 : ∀ (m1 : Mem), f_X8_goesOn_K2_43 m1 = some m → G 43 [(0, .ref (sq Y 0))] [] m1 := by
    intro m1 hf
    unfold f_X8_goesOn_K2_43 at hf
    refine g_aload_n Γ (pc := 43) 0 dX8_goesOn_43 rfl rfl ?_
    obtain ⟨v2, m3, h1, hf⟩ := bn2_i hf
    refine g_callVI Γ (pc := 44) (as := []) (st := []) dX8_goesOn_44 (c_X8_lookedAt hM h1) (M_obj hM) rfl mi_X8_lookedAt mv_X8_lookedAt kM_X8_193 rfl ⟨Nat.le_of_ble_eq_true rfl, Nat.le_of_ble_eq_true rfl⟩ rfl (Nat.le_of_ble_eq_true rfl) ?_
    refine g_istore_n Γ (pc := 47) (lv' := [(1, .int v2), (0, .ref (sq Y 0))]) dX8_goesOn_47 rfl (by decide) rfl ?_
    refine g_iload_n Γ (pc := 48) 0 dX8_goesOn_48 rfl rfl ?_
    have J_102 : ∀ (m4 : Mem), f_X8_goesOn_J102 m4 = some m → G 102 [(0, .ref (sq Y 0))] [] m4 := by
      intro m4 hf
      unfold f_X8_goesOn_J102 at hf
      refine g_aload_n Γ (pc := 102) 0 dX8_goesOn_102 rfl rfl ?_
      refine g_get Γ (pc := 103) (v := .ref (sq Y 1)) dX8_goesOn_103 (M_obj hM) fr_X8_7 rfl ?_
      refine g_iconst Γ (pc := 106) (v := 0) dX8_goesOn_106 rfl ?_
      refine g_iald Γ (pc := 107) dX8_goesOn_107 (M_1 hM) hf (fun v5 hf => ?_)
      have J_155 : ∀ (m6 : Mem), f_X8_goesOn_J155 m6 = some m → G 155 [(0, .ref (sq Y 0))] [] m6 := by
        intro m6 hf
        unfold f_X8_goesOn_J155 at hf
        refine g_aload_n Γ (pc := 155) 0 dX8_goesOn_155 rfl rfl ?_
        refine g_get Γ (pc := 156) (v := .ref (sq Y 1)) dX8_goesOn_156 (M_obj hM) fr_X8_7 rfl ?_
        refine g_iconst Γ (pc := 159) (v := 2) dX8_goesOn_159 rfl ?_
        refine g_dup2 Γ (pc := 160) dX8_goesOn_160 rfl rfl ?_
        refine g_iald Γ (pc := 161) dX8_goesOn_161 (M_1 hM) hf (fun v7 hf => ?_)
        refine g_iconst Γ (pc := 162) (v := 1) dX8_goesOn_162 rfl ?_
        refine g_iadd Γ (pc := 163) dX8_goesOn_163 ?_
        refine g_iast Γ (pc := 164) dX8_goesOn_164 (M_1 hM) hf (fun m8 hf => ?_)
        exact rV ret dX8_goesOn_165 hf
      refine g_if_le Γ (pc := 108) (tgt := 155) dX8_goesOn_108 rfl hf (fun hf => ?_) (fun hf => ?_)
      · refine g_sub Γ [0] rfl ?_
        exact J_155 m4 hf
      · refine g_aload_n Γ (pc := 111) 0 dX8_goesOn_111 rfl rfl ?_
        obtain ⟨v9, m10, h1, hf⟩ := bn2_i hf
        refine g_callVI Γ (pc := 112) (as := []) (st := []) dX8_goesOn_112 (c_X8_drawn hM h1) (M_obj hM) rfl mi_X8_drawn mv_X8_drawn kM_X8_155 rfl ⟨Nat.le_of_ble_eq_true rfl, Nat.le_of_ble_eq_true rfl⟩ rfl (Nat.le_of_ble_eq_true rfl) ?_
        refine g_bipush Γ (pc := 115) (v := 100) dX8_goesOn_115 rfl ?_
        refine g_irem Γ (pc := 117) dX8_goesOn_117 hf (fun v11 hf => ?_)
        refine g_aload_n Γ (pc := 118) 0 dX8_goesOn_118 rfl rfl ?_
        refine g_get Γ (pc := 119) (v := .ref (sq Y 1)) dX8_goesOn_119 (M_obj hM) fr_X8_7 rfl ?_
        refine g_bipush Γ (pc := 122) (v := 8) dX8_goesOn_122 rfl ?_
        refine g_iald Γ (pc := 124) dX8_goesOn_124 (M_1 hM) hf (fun v12 hf => ?_)
        refine g_icmp_ge Γ (pc := 125) (tgt := 155) dX8_goesOn_125 rfl hf (fun hf => ?_) (fun hf => ?_)
        · refine g_sub Γ [0] rfl ?_
          exact J_155 m10 hf
        · refine g_aload_n Γ (pc := 128) 0 dX8_goesOn_128 rfl rfl ?_
          obtain ⟨v13, m14, h1, hf⟩ := bn2_i hf
          refine g_callVI Γ (pc := 129) (as := []) (st := []) dX8_goesOn_129 (c_X8_drawn hM h1) (M_obj hM) rfl mi_X8_drawn mv_X8_drawn kM_X8_155 rfl ⟨Nat.le_of_ble_eq_true rfl, Nat.le_of_ble_eq_true rfl⟩ rfl (Nat.le_of_ble_eq_true rfl) ?_
          refine g_aload_n Γ (pc := 132) 0 dX8_goesOn_132 rfl rfl ?_
          refine g_get Γ (pc := 133) (v := .ref (sq Y 1)) dX8_goesOn_133 (M_obj hM) fr_X8_7 rfl ?_
          refine g_iconst Γ (pc := 136) (v := 0) dX8_goesOn_136 rfl ?_
          refine g_iald Γ (pc := 137) dX8_goesOn_137 (M_1 hM) hf (fun v15 hf => ?_)
          refine g_irem Γ (pc := 138) dX8_goesOn_138 hf (fun v16 hf => ?_)
          refine g_istore_n Γ (pc := 139) (lv' := [(2, .int v16), (0, .ref (sq Y 0))]) dX8_goesOn_139 rfl (by decide) rfl ?_
          refine g_aload_n Γ (pc := 140) 1 dX8_goesOn_140 rfl rfl ?_
          refine g_iload_n Γ (pc := 141) 0 dX8_goesOn_141 rfl rfl ?_
          refine g_iconst Γ (pc := 142) (v := 0) dX8_goesOn_142 rfl ?_
          obtain ⟨v17, h1, hf⟩ := bn1_i hf
          refine g_callVI Γ (pc := 143) (as := [.int v16, .int 0]) (st := []) dX8_goesOn_143 (c_X8_of hM h1) (M_obj hM) rfl mi_X8_of mv_X8_of kM_X8_83 rfl ⟨Nat.le_of_ble_eq_true rfl, Nat.le_of_ble_eq_true rfl⟩ rfl (Nat.le_of_ble_eq_true rfl) ?_
          refine g_iconst Γ (pc := 146) (v := 5) dX8_goesOn_146 rfl ?_
          refine g_icmp_eq Γ (pc := 147) (tgt := 155) dX8_goesOn_147 rfl hf (fun hf => ?_) (fun hf => ?_)
          · refine g_sub Γ [1] rfl ?_
            exact J_155 m14 hf
          · refine g_aload_n Γ (pc := 150) 1 dX8_goesOn_150 rfl rfl ?_
            refine g_iload_n Γ (pc := 151) 0 dX8_goesOn_151 rfl rfl ?_
            obtain ⟨m18, h1, hf⟩ := bn1_i hf
            refine g_callVV Γ (pc := 152) (as := [.int v16]) (st := []) dX8_goesOn_152 (c_X8_changes hM h1) (M_obj hM) rfl mi_X8_changes mv_X8_changes kM_X8_199 rfl ⟨Nat.le_of_ble_eq_true rfl, Nat.le_of_ble_eq_true rfl⟩ rfl (Nat.le_of_ble_eq_true rfl) ?_
            refine g_sub Γ [1] rfl ?_
            exact J_155 m18 hf
    refine g_if_lt Γ (pc := 49) (tgt := 102) dX8_goesOn_49 rfl hf (fun hf => ?_) (fun hf => ?_)
    · refine g_sub Γ [1] rfl ?_
      exact J_102 m3 hf
    · refine g_aload_n Γ (pc := 52) 1 dX8_goesOn_52 rfl rfl ?_
      refine g_iload_n Γ (pc := 53) 0 dX8_goesOn_53 rfl rfl ?_
      refine g_iconst Γ (pc := 54) (v := 0) dX8_goesOn_54 rfl ?_
      obtain ⟨v19, h1, hf⟩ := bn1_i hf
      refine g_callVI Γ (pc := 55) (as := [.int v2, .int 0]) (st := []) dX8_goesOn_55 (c_X8_of hM h1) (M_obj hM) rfl mi_X8_of mv_X8_of kM_X8_83 rfl ⟨Nat.le_of_ble_eq_true rfl, Nat.le_of_ble_eq_true rfl⟩ rfl (Nat.le_of_ble_eq_true rfl) ?_
      refine g_iconst Γ (pc := 58) (v := 5) dX8_goesOn_58 rfl ?_
      refine g_icmp_eq Γ (pc := 59) (tgt := 102) dX8_goesOn_59 rfl hf (fun hf => ?_) (fun hf => ?_)
      · refine g_sub Γ [1] rfl ?_
        exact J_102 m3 hf
      · refine g_aload_n Γ (pc := 62) 1 dX8_goesOn_62 rfl rfl ?_
        refine g_iload_n Γ (pc := 63) 0 dX8_goesOn_63 rfl rfl ?_
        refine g_aload_n Γ (pc := 64) 1 dX8_goesOn_64 rfl rfl ?_
        obtain ⟨v20, h1, hf⟩ := bn1_i hf
        refine g_callVI Γ (pc := 65) (as := []) (st := [.int v2, .ref (sq Y 0)]) dX8_goesOn_65 (c_X8_forNow hM h1) (M_obj hM) rfl mi_X8_forNow mv_X8_forNow kM_X8_94 rfl ⟨Nat.le_of_ble_eq_true rfl, Nat.le_of_ble_eq_true rfl⟩ rfl (Nat.le_of_ble_eq_true rfl) ?_
        refine g_iconst Γ (pc := 68) (v := 1) dX8_goesOn_68 rfl ?_
        refine g_iload_n Γ (pc := 69) 0 dX8_goesOn_69 rfl rfl ?_
        refine g_ishl Γ (pc := 70) dX8_goesOn_70 ?_
        refine g_ixor Γ (pc := 71) dX8_goesOn_71 ?_
        obtain ⟨v21, h1, hf⟩ := bn1_i hf
        refine g_callVI Γ (pc := 72) (as := [.int v2, .int (v20 ^^^ (1 <<< (v2 &&& 31)))]) (st := []) dX8_goesOn_72 (c_X8_around hM h1) (M_obj hM) rfl mi_X8_around mv_X8_around kM_X8_196 rfl ⟨Nat.le_of_ble_eq_true rfl, Nat.le_of_ble_eq_true rfl⟩ rfl (Nat.le_of_ble_eq_true rfl) ?_
        refine g_aload_n Γ (pc := 75) 1 dX8_goesOn_75 rfl rfl ?_
        refine g_iload_n Γ (pc := 76) 0 dX8_goesOn_76 rfl rfl ?_
        refine g_aload_n Γ (pc := 77) 1 dX8_goesOn_77 rfl rfl ?_
        obtain ⟨v22, h1, hf⟩ := bn1_i hf
        refine g_callVI Γ (pc := 78) (as := []) (st := [.int v2, .ref (sq Y 0), .int v21]) dX8_goesOn_78 (c_X8_forNow hM h1) (M_obj hM) rfl mi_X8_forNow mv_X8_forNow kM_X8_94 rfl ⟨Nat.le_of_ble_eq_true rfl, Nat.le_of_ble_eq_true rfl⟩ rfl (Nat.le_of_ble_eq_true rfl) ?_
        obtain ⟨v23, h1, hf⟩ := bn1_i hf
        refine g_callVI Γ (pc := 81) (as := [.int v2, .int v22]) (st := [.int v21]) dX8_goesOn_81 (c_X8_around hM h1) (M_obj hM) rfl mi_X8_around mv_X8_around kM_X8_196 rfl ⟨Nat.le_of_ble_eq_true rfl, Nat.le_of_ble_eq_true rfl⟩ rfl (Nat.le_of_ble_eq_true rfl) ?_
        refine g_icmp_ge Γ (pc := 84) (tgt := 102) dX8_goesOn_84 rfl hf (fun hf => ?_) (fun hf => ?_)
        · refine g_sub Γ [1] rfl ?_
          exact J_102 m3 hf
        · refine g_aload_n Γ (pc := 87) 1 dX8_goesOn_87 rfl rfl ?_
          refine g_iload_n Γ (pc := 88) 0 dX8_goesOn_88 rfl rfl ?_
          obtain ⟨m24, h1, hf⟩ := bn1_i hf
          refine g_callVV Γ (pc := 89) (as := [.int v2]) (st := []) dX8_goesOn_89 (c_X8_changes hM h1) (M_obj hM) rfl mi_X8_changes mv_X8_changes kM_X8_199 rfl ⟨Nat.le_of_ble_eq_true rfl, Nat.le_of_ble_eq_true rfl⟩ rfl (Nat.le_of_ble_eq_true rfl) ?_
          refine g_aload_n Γ (pc := 92) 1 dX8_goesOn_92 rfl rfl ?_
          refine g_iload_n Γ (pc := 93) 0 dX8_goesOn_93 rfl rfl ?_
          refine g_aload_n Γ (pc := 94) 1 dX8_goesOn_94 rfl rfl ?_
          refine g_iload_n Γ (pc := 95) 0 dX8_goesOn_95 rfl rfl ?_
          obtain ⟨v25, h1, hf⟩ := bn1_i hf
          refine g_callVI Γ (pc := 96) (as := [.int v2]) (st := [.int v2, .ref (sq Y 0)]) dX8_goesOn_96 (c_X8_asks hM h1) (M_obj hM) rfl mi_X8_asks mv_X8_asks kM_X8_121 rfl ⟨Nat.le_of_ble_eq_true rfl, Nat.le_of_ble_eq_true rfl⟩ rfl (Nat.le_of_ble_eq_true rfl) ?_
          obtain ⟨m26, h1, hf⟩ := bn1_i hf
          refine g_callVV Γ (pc := 99) (as := [.int v2, .int v25]) (st := []) dX8_goesOn_99 (c_X8_pays hM h1) (M_obj hM) rfl mi_X8_pays mv_X8_pays kM_X8_189 rfl ⟨Nat.le_of_ble_eq_true rfl, Nat.le_of_ble_eq_true rfl⟩ rfl (Nat.le_of_ble_eq_true rfl) ?_
          refine g_sub Γ [1] rfl ?_
          exact J_102 m26 hf
  refine g_sub Γ [1, 0] rfl ?_
  refine lpF_s (P := fun (v : Int32 × Mem) => G 2 [(0, .ref (sq Y 0)), (1, .int v.1)] [] v.2) hf (fun v z1 hf kI1 kX1 => ?_)
  obtain ⟨x1_27, m28⟩ := v
  replace hf : f_X8_goesOn_L2 x1_27 m28 = some z1 := hf
  show G 2 [(0, .ref (sq Y 0)), (1, .int x1_27)] [] m28
  unfold f_X8_goesOn_L2 at hf
  refine g_iload_n Γ (pc := 2) 1 dX8_goesOn_2 rfl rfl ?_
  refine g_aload_n Γ (pc := 3) 0 dX8_goesOn_3 rfl rfl ?_
  refine g_get Γ (pc := 4) (v := .ref (sq Y 1)) dX8_goesOn_4 (M_obj hM) fr_X8_7 rfl ?_
  refine g_iconst Γ (pc := 7) (v := 0) dX8_goesOn_7 rfl ?_
  refine g_iald Γ (pc := 8) dX8_goesOn_8 (M_1 hM) hf (fun v29 hf => ?_)
  refine g_icmp_ge Γ (pc := 9) (tgt := 43) dX8_goesOn_9 rfl hf (fun hf => ?_) (fun hf => ?_)
  · refine g_sub Γ [0] rfl ?_
    exact K_2_43 m28 (kX1 m28 (Option.some.inj hf).symm)
  · refine g_aload_n Γ (pc := 12) 0 dX8_goesOn_12 rfl rfl ?_
    refine g_iload_n Γ (pc := 13) 1 dX8_goesOn_13 rfl rfl ?_
    obtain ⟨v30, h1, hf⟩ := bn1_i hf
    refine g_callVI Γ (pc := 14) (as := [.int x1_27]) (st := []) dX8_goesOn_14 (c_X8_offOf hM h1) (M_obj hM) rfl mi_X8_offOf mv_X8_offOf kM_X8_101 rfl ⟨Nat.le_of_ble_eq_true rfl, Nat.le_of_ble_eq_true rfl⟩ rfl (Nat.le_of_ble_eq_true rfl) ?_
    refine g_aload_n Γ (pc := 17) 0 dX8_goesOn_17 rfl rfl ?_
    refine g_get Γ (pc := 18) (v := .ref (sq Y 1)) dX8_goesOn_18 (M_obj hM) fr_X8_7 rfl ?_
    refine g_bipush Γ (pc := 21) (v := 6) dX8_goesOn_21 rfl ?_
    refine g_iald Γ (pc := 23) dX8_goesOn_23 (M_1 hM) hf (fun v31 hf => ?_)
    have J_37 : ∀ (m32 : Mem), f_X8_goesOn_J37 x1_27 m32 = some z1 → G 37 [(0, .ref (sq Y 0)), (1, .int x1_27)] [] m32 := by
      intro m32 hf
      unfold f_X8_goesOn_J37 at hf
      refine g_iinc Γ (pc := 37) (v := x1_27 + 1) (lv' := [(1, .int (x1_27 + 1)), (0, .ref (sq Y 0))]) 1 dX8_goesOn_37 rfl rfl (by decide) rfl ?_
      refine g_goto Γ (pc := 40) (tgt := 2) dX8_goesOn_40 rfl ?_
      refine g_sub Γ [1, 0] rfl ?_
      exact kI1 (x1_27 + 1, m32) (Option.some.inj hf).symm
    refine g_icmp_le Γ (pc := 24) (tgt := 37) dX8_goesOn_24 rfl hf (fun hf => ?_) (fun hf => ?_)
    · refine g_sub Γ [0, 1] rfl ?_
      exact J_37 m28 hf
    · refine g_aload_n Γ (pc := 27) 0 dX8_goesOn_27 rfl rfl ?_
      refine g_iload_n Γ (pc := 28) 1 dX8_goesOn_28 rfl rfl ?_
      refine g_aload_n Γ (pc := 29) 0 dX8_goesOn_29 rfl rfl ?_
      refine g_iload_n Γ (pc := 30) 1 dX8_goesOn_30 rfl rfl ?_
      obtain ⟨v33, m34, h1, hf⟩ := bn2_i hf
      refine g_callVI Γ (pc := 31) (as := [.int x1_27]) (st := [.int x1_27, .ref (sq Y 0)]) dX8_goesOn_31 (c_X8_dues hM h1) (M_obj hM) rfl mi_X8_dues mv_X8_dues kM_X8_118 rfl ⟨Nat.le_of_ble_eq_true rfl, Nat.le_of_ble_eq_true rfl⟩ rfl (Nat.le_of_ble_eq_true rfl) ?_
      obtain ⟨m35, h1, hf⟩ := bn1_i hf
      refine g_callVV Γ (pc := 34) (as := [.int x1_27, .int v33]) (st := []) dX8_goesOn_34 (c_X8_pays hM h1) (M_obj hM) rfl mi_X8_pays mv_X8_pays kM_X8_189 rfl ⟨Nat.le_of_ble_eq_true rfl, Nat.le_of_ble_eq_true rfl⟩ rfl (Nat.le_of_ble_eq_true rfl) ?_
      refine g_sub Γ [0, 1] rfl ?_
      exact J_37 m35 hf
def f_X8_years_K24_51 (v2 : Int32) (m3 : Mem) : Option (Int32 × Mem) :=
  bn1 (ldM (m3 1) 3059 4) fun v4 =>
  some ((v4 - v2), m3)
def f_X8_years_L24 (a0 : Int32) (x3_5 : Int32) (m6 : Mem) : Option ((Int32 × Mem) ⊕ Mem) :=
  if a0 ≤ x3_5 then
    some (.inr m6)
  else
    bn1 (ldM (m6 1) 3059 2) fun v7 =>
    if 9999 ≤ v7 then
      some (.inr m6)
    else
      bn1 (f_X8_goesOn m6) fun m8 =>
      some (.inl (x3_5 + 1, m8))
def f_X8_years (a0 : Int32) (μ : Mem) : Option (Int32 × Mem) :=
  bn1 (f_X8_isIn a0.toInt64 1 100) fun v1 =>
  if v1 = 0 then
    some ((-1000000001), μ)
  else
    bn1 (ldM (μ 1) 3059 4) fun v2 =>
    bn1 (lpF (fun v => f_X8_years_L24 a0 v.1 v.2) 4000 (0, μ)) (fun x => f_X8_years_K24_51 v2 x)
set_option maxRecDepth 100000 in
set_option maxHeartbeats 4000000 in
theorem c_X8_years {Y : SYS} (hM : IsM Y) {a0 : Int32} {μ : Mem} {x : Int32} {m : Mem} (hf : f_X8_years a0 μ = some (x, m)) : KC Y yX8_years cX8_years 4 (some .int) 6 [.ref (sq Y 0), .int a0] μ (some (.int x)) m := by
  refine KC.I RX8 [(0, .ref (sq Y 0)), (1, .int a0)] (by decide) rfl (Nat.le_of_ble_eq_true rfl) rfl (fun G Γ ret => ?_)
  unfold f_X8_years at hf
  refine g_iload_n Γ (pc := 0) 1 dX8_years_0 rfl rfl ?_
  refine g_i2l Γ (pc := 1) dX8_years_1 ?_
  refine g_lconst Γ (pc := 2) (v := 1) dX8_years_2 rfl ?_
  refine g_ldc2 Γ (pc := 3) dX8_years_3 kL_X8_151 ?_
  obtain ⟨v1, h1, hf⟩ := bn1_i hf
  refine g_callSI Γ (pc := 6) (as := [.long a0.toInt64, .long 1, .long 100]) (st := []) dX8_years_6 (c_X8_isIn h1) mi_X8_isIn ms_X8_isIn kM_X8_65 rfl ⟨Nat.le_of_ble_eq_true rfl, Nat.le_of_ble_eq_true rfl⟩ rfl (Nat.le_of_ble_eq_true rfl) ?_
  refine g_if_ne Γ (pc := 9) (tgt := 15) dX8_years_9 rfl hf (fun hf => ?_) (fun hf => ?_)
  · refine g_aload_n Γ (pc := 15) 0 dX8_years_15 rfl rfl ?_
    refine g_get Γ (pc := 16) (v := .ref (sq Y 1)) dX8_years_16 (M_obj hM) fr_X8_7 rfl ?_
    refine g_iconst Γ (pc := 19) (v := 4) dX8_years_19 rfl ?_
    refine g_iald Γ (pc := 20) dX8_years_20 (M_1 hM) hf (fun v2 hf => ?_)
    refine g_istore_n Γ (pc := 21) (lv' := [(2, .int v2), (0, .ref (sq Y 0)), (1, .int a0)]) dX8_years_21 rfl (by decide) rfl ?_
    refine g_iconst Γ (pc := 22) (v := 0) dX8_years_22 rfl ?_
    refine g_istore_n Γ (pc := 23) (lv' := [(3, .int 0), (2, .int v2), (0, .ref (sq Y 0)), (1, .int a0)]) dX8_years_23 rfl (by decide) rfl ?_
    have K_24_51 : ∀ (m3 : Mem), f_X8_years_K24_51 v2 m3 = some (x, m) → G 51 [(0, .ref (sq Y 0)), (2, .int v2)] [] m3 := by
      intro m3 hf
      unfold f_X8_years_K24_51 at hf
      refine g_aload_n Γ (pc := 51) 0 dX8_years_51 rfl rfl ?_
      refine g_get Γ (pc := 52) (v := .ref (sq Y 1)) dX8_years_52 (M_obj hM) fr_X8_7 rfl ?_
      refine g_iconst Γ (pc := 55) (v := 4) dX8_years_55 rfl ?_
      refine g_iald Γ (pc := 56) dX8_years_56 (M_1 hM) hf (fun v4 hf => ?_)
      refine g_iload_n Γ (pc := 57) 1 dX8_years_57 rfl rfl ?_
      refine g_isub Γ (pc := 58) dX8_years_58 ?_
      exact rI ret dX8_years_59 hf
    refine g_sub Γ [2, 3, 1, 0] rfl ?_
    refine lpF_s (P := fun (v : Int32 × Mem) => G 24 [(0, .ref (sq Y 0)), (1, .int a0), (2, .int v2), (3, .int v.1)] [] v.2) hf (fun v z1 hf kI1 kX1 => ?_)
    obtain ⟨x3_5, m6⟩ := v
    replace hf : f_X8_years_L24 a0 x3_5 m6 = some z1 := hf
    show G 24 [(0, .ref (sq Y 0)), (1, .int a0), (2, .int v2), (3, .int x3_5)] [] m6
    unfold f_X8_years_L24 at hf
    refine g_iload_n Γ (pc := 24) 3 dX8_years_24 rfl rfl ?_
    refine g_iload_n Γ (pc := 25) 1 dX8_years_25 rfl rfl ?_
    refine g_icmp_ge Γ (pc := 26) (tgt := 51) dX8_years_26 rfl hf (fun hf => ?_) (fun hf => ?_)
    · refine g_sub Γ [0, 2] rfl ?_
      exact K_24_51 m6 (kX1 m6 (Option.some.inj hf).symm)
    · refine g_aload_n Γ (pc := 29) 0 dX8_years_29 rfl rfl ?_
      refine g_get Γ (pc := 30) (v := .ref (sq Y 1)) dX8_years_30 (M_obj hM) fr_X8_7 rfl ?_
      refine g_iconst Γ (pc := 33) (v := 2) dX8_years_33 rfl ?_
      refine g_iald Γ (pc := 34) dX8_years_34 (M_1 hM) hf (fun v7 hf => ?_)
      refine g_sipush Γ (pc := 35) (v := 9999) dX8_years_35 rfl ?_
      refine g_icmp_ge Γ (pc := 38) (tgt := 51) dX8_years_38 rfl hf (fun hf => ?_) (fun hf => ?_)
      · refine g_sub Γ [0, 2] rfl ?_
        exact K_24_51 m6 (kX1 m6 (Option.some.inj hf).symm)
      · refine g_aload_n Γ (pc := 41) 0 dX8_years_41 rfl rfl ?_
        obtain ⟨m8, h1, hf⟩ := bn1_i hf
        refine g_callVV Γ (pc := 42) (as := []) (st := []) dX8_years_42 (c_X8_goesOn hM h1) (M_obj hM) rfl mi_X8_goesOn mv_X8_goesOn kM_X8_203 rfl ⟨Nat.le_of_ble_eq_true rfl, Nat.le_of_ble_eq_true rfl⟩ rfl (Nat.le_of_ble_eq_true rfl) ?_
        refine g_iinc Γ (pc := 45) (v := x3_5 + 1) (lv' := [(3, .int (x3_5 + 1)), (0, .ref (sq Y 0)), (1, .int a0), (2, .int v2)]) 3 dX8_years_45 rfl rfl (by decide) rfl ?_
        refine g_goto Γ (pc := 48) (tgt := 24) dX8_years_48 rfl ?_
        refine g_sub Γ [1, 2, 3, 0] rfl ?_
        exact kI1 (x3_5 + 1, m8) (Option.some.inj hf).symm
  · refine g_ldc Γ (pc := 12) dX8_years_12 kK_X8_78 ?_
    exact rI ret dX8_years_14 hf
def f_X8_laysBy_K2_26 (m1 : Mem) : Option (Mem) :=
  some m1
def f_X8_laysBy_L2 (x1_2 : Int32) (m3 : Mem) : Option ((Int32 × Mem) ⊕ Mem) :=
  if 59 ≤ x1_2 then
    some (.inr m3)
  else
    bn1 (ldM (m3 1) 3059 x1_2) fun v4 =>
    bn1 (stM m3 12 59 x1_2 v4) fun m5 =>
    some (.inl (x1_2 + 1, m5))
def f_X8_laysBy (μ : Mem) : Option (Mem) :=
  bn1 (lpF (fun v => f_X8_laysBy_L2 v.1 v.2) 4000 (0, μ)) (fun x => f_X8_laysBy_K2_26 x)
set_option maxRecDepth 100000 in
set_option maxHeartbeats 4000000 in
theorem c_X8_laysBy {Y : SYS} (hM : IsM Y) {μ : Mem} {m : Mem} (hf : f_X8_laysBy μ = some m) : KC Y yX8_laysBy cX8_laysBy 2 none 0 [.ref (sq Y 0)] μ none m := by
  refine KC.V RX8 [(0, .ref (sq Y 0))] (by decide) rfl (Nat.le_of_ble_eq_true rfl) rfl (fun G Γ ret => ?_)
  unfold f_X8_laysBy at hf
  refine g_iconst Γ (pc := 0) (v := 0) dX8_laysBy_0 rfl ?_
  refine g_istore_n Γ (pc := 1) (lv' := [(1, .int 0), (0, .ref (sq Y 0))]) dX8_laysBy_1 rfl (by decide) rfl ?_
  have K_2_26 : ∀ (m1 : Mem), f_X8_laysBy_K2_26 m1 = some m → G 26 [] [] m1 := by
    intro m1 hf
    unfold f_X8_laysBy_K2_26 at hf
    exact rV ret dX8_laysBy_26 hf
  refine g_sub Γ [1, 0] rfl ?_
  refine lpF_s (P := fun (v : Int32 × Mem) => G 2 [(0, .ref (sq Y 0)), (1, .int v.1)] [] v.2) hf (fun v z1 hf kI1 kX1 => ?_)
  obtain ⟨x1_2, m3⟩ := v
  replace hf : f_X8_laysBy_L2 x1_2 m3 = some z1 := hf
  show G 2 [(0, .ref (sq Y 0)), (1, .int x1_2)] [] m3
  unfold f_X8_laysBy_L2 at hf
  refine g_iload_n Γ (pc := 2) 1 dX8_laysBy_2 rfl rfl ?_
  refine g_bipush Γ (pc := 3) (v := 59) dX8_laysBy_3 rfl ?_
  refine g_icmp_ge Γ (pc := 5) (tgt := 26) dX8_laysBy_5 rfl hf (fun hf => ?_) (fun hf => ?_)
  · refine g_sub Γ [] rfl ?_
    exact K_2_26 m3 (kX1 m3 (Option.some.inj hf).symm)
  · refine g_aload_n Γ (pc := 8) 0 dX8_laysBy_8 rfl rfl ?_
    refine g_get Γ (pc := 9) (v := .ref (sq Y 12)) dX8_laysBy_9 (M_obj hM) fr_X8_43 rfl ?_
    refine g_iload_n Γ (pc := 12) 1 dX8_laysBy_12 rfl rfl ?_
    refine g_aload_n Γ (pc := 13) 0 dX8_laysBy_13 rfl rfl ?_
    refine g_get Γ (pc := 14) (v := .ref (sq Y 1)) dX8_laysBy_14 (M_obj hM) fr_X8_7 rfl ?_
    refine g_iload_n Γ (pc := 17) 1 dX8_laysBy_17 rfl rfl ?_
    refine g_iald Γ (pc := 18) dX8_laysBy_18 (M_1 hM) hf (fun v4 hf => ?_)
    refine g_iast Γ (pc := 19) dX8_laysBy_19 (M_12 hM) hf (fun m5 hf => ?_)
    refine g_iinc Γ (pc := 20) (v := x1_2 + 1) (lv' := [(1, .int (x1_2 + 1)), (0, .ref (sq Y 0))]) 1 dX8_laysBy_20 rfl rfl (by decide) rfl ?_
    refine g_goto Γ (pc := 23) (tgt := 2) dX8_laysBy_23 rfl ?_
    refine g_sub Γ [1, 0] rfl ?_
    exact kI1 (x1_2 + 1, m5) (Option.some.inj hf).symm
def f_X8_goesOnMany_K2_17 (m1 : Mem) : Option (Mem) :=
  some m1
def f_X8_goesOnMany_L2 (a0 : Int32) (x2_2 : Int32) (m3 : Mem) : Option ((Int32 × Mem) ⊕ Mem) :=
  if a0 ≤ x2_2 then
    some (.inr m3)
  else
    bn1 (f_X8_goesOn m3) fun m4 =>
    some (.inl (x2_2 + 1, m4))
def f_X8_goesOnMany (a0 : Int32) (μ : Mem) : Option (Mem) :=
  bn1 (lpF (fun v => f_X8_goesOnMany_L2 a0 v.1 v.2) 4000 (0, μ)) (fun x => f_X8_goesOnMany_K2_17 x)
set_option maxRecDepth 100000 in
set_option maxHeartbeats 4000000 in
theorem c_X8_goesOnMany {Y : SYS} (hM : IsM Y) {a0 : Int32} {μ : Mem} {m : Mem} (hf : f_X8_goesOnMany a0 μ = some m) : KC Y yX8_goesOnMany cX8_goesOnMany 3 none 6 [.ref (sq Y 0), .int a0] μ none m := by
  refine KC.V RX8 [(0, .ref (sq Y 0)), (1, .int a0)] (by decide) rfl (Nat.le_of_ble_eq_true rfl) rfl (fun G Γ ret => ?_)
  unfold f_X8_goesOnMany at hf
  refine g_iconst Γ (pc := 0) (v := 0) dX8_goesOnMany_0 rfl ?_
  refine g_istore_n Γ (pc := 1) (lv' := [(2, .int 0), (0, .ref (sq Y 0)), (1, .int a0)]) dX8_goesOnMany_1 rfl (by decide) rfl ?_
  have K_2_17 : ∀ (m1 : Mem), f_X8_goesOnMany_K2_17 m1 = some m → G 17 [] [] m1 := by
    intro m1 hf
    unfold f_X8_goesOnMany_K2_17 at hf
    exact rV ret dX8_goesOnMany_17 hf
  refine g_sub Γ [1, 2, 0] rfl ?_
  refine lpF_s (P := fun (v : Int32 × Mem) => G 2 [(0, .ref (sq Y 0)), (1, .int a0), (2, .int v.1)] [] v.2) hf (fun v z1 hf kI1 kX1 => ?_)
  obtain ⟨x2_2, m3⟩ := v
  replace hf : f_X8_goesOnMany_L2 a0 x2_2 m3 = some z1 := hf
  show G 2 [(0, .ref (sq Y 0)), (1, .int a0), (2, .int x2_2)] [] m3
  unfold f_X8_goesOnMany_L2 at hf
  refine g_iload_n Γ (pc := 2) 2 dX8_goesOnMany_2 rfl rfl ?_
  refine g_iload_n Γ (pc := 3) 1 dX8_goesOnMany_3 rfl rfl ?_
  refine g_icmp_ge Γ (pc := 4) (tgt := 17) dX8_goesOnMany_4 rfl hf (fun hf => ?_) (fun hf => ?_)
  · refine g_sub Γ [] rfl ?_
    exact K_2_17 m3 (kX1 m3 (Option.some.inj hf).symm)
  · refine g_aload_n Γ (pc := 7) 0 dX8_goesOnMany_7 rfl rfl ?_
    obtain ⟨m4, h1, hf⟩ := bn1_i hf
    refine g_callVV Γ (pc := 8) (as := []) (st := []) dX8_goesOnMany_8 (c_X8_goesOn hM h1) (M_obj hM) rfl mi_X8_goesOn mv_X8_goesOn kM_X8_203 rfl ⟨Nat.le_of_ble_eq_true rfl, Nat.le_of_ble_eq_true rfl⟩ rfl (Nat.le_of_ble_eq_true rfl) ?_
    refine g_iinc Γ (pc := 11) (v := x2_2 + 1) (lv' := [(2, .int (x2_2 + 1)), (0, .ref (sq Y 0)), (1, .int a0)]) 2 dX8_goesOnMany_11 rfl rfl (by decide) rfl ?_
    refine g_goto Γ (pc := 14) (tgt := 2) dX8_goesOnMany_14 rfl ?_
    refine g_sub Γ [1, 2, 0] rfl ?_
    exact kI1 (x2_2 + 1, m4) (Option.some.inj hf).symm
def f_X8_laysBack_K2_26 (m1 : Mem) : Option (Mem) :=
  some m1
def f_X8_laysBack_L2 (x1_2 : Int32) (m3 : Mem) : Option ((Int32 × Mem) ⊕ Mem) :=
  if 59 ≤ x1_2 then
    some (.inr m3)
  else
    bn1 (ldM (m3 12) 59 x1_2) fun v4 =>
    bn1 (stM m3 1 3059 x1_2 v4) fun m5 =>
    some (.inl (x1_2 + 1, m5))
def f_X8_laysBack (μ : Mem) : Option (Mem) :=
  bn1 (lpF (fun v => f_X8_laysBack_L2 v.1 v.2) 4000 (0, μ)) (fun x => f_X8_laysBack_K2_26 x)
set_option maxRecDepth 100000 in
set_option maxHeartbeats 4000000 in
theorem c_X8_laysBack {Y : SYS} (hM : IsM Y) {μ : Mem} {m : Mem} (hf : f_X8_laysBack μ = some m) : KC Y yX8_laysBack cX8_laysBack 2 none 0 [.ref (sq Y 0)] μ none m := by
  refine KC.V RX8 [(0, .ref (sq Y 0))] (by decide) rfl (Nat.le_of_ble_eq_true rfl) rfl (fun G Γ ret => ?_)
  unfold f_X8_laysBack at hf
  refine g_iconst Γ (pc := 0) (v := 0) dX8_laysBack_0 rfl ?_
  refine g_istore_n Γ (pc := 1) (lv' := [(1, .int 0), (0, .ref (sq Y 0))]) dX8_laysBack_1 rfl (by decide) rfl ?_
  have K_2_26 : ∀ (m1 : Mem), f_X8_laysBack_K2_26 m1 = some m → G 26 [] [] m1 := by
    intro m1 hf
    unfold f_X8_laysBack_K2_26 at hf
    exact rV ret dX8_laysBack_26 hf
  refine g_sub Γ [1, 0] rfl ?_
  refine lpF_s (P := fun (v : Int32 × Mem) => G 2 [(0, .ref (sq Y 0)), (1, .int v.1)] [] v.2) hf (fun v z1 hf kI1 kX1 => ?_)
  obtain ⟨x1_2, m3⟩ := v
  replace hf : f_X8_laysBack_L2 x1_2 m3 = some z1 := hf
  show G 2 [(0, .ref (sq Y 0)), (1, .int x1_2)] [] m3
  unfold f_X8_laysBack_L2 at hf
  refine g_iload_n Γ (pc := 2) 1 dX8_laysBack_2 rfl rfl ?_
  refine g_bipush Γ (pc := 3) (v := 59) dX8_laysBack_3 rfl ?_
  refine g_icmp_ge Γ (pc := 5) (tgt := 26) dX8_laysBack_5 rfl hf (fun hf => ?_) (fun hf => ?_)
  · refine g_sub Γ [] rfl ?_
    exact K_2_26 m3 (kX1 m3 (Option.some.inj hf).symm)
  · refine g_aload_n Γ (pc := 8) 0 dX8_laysBack_8 rfl rfl ?_
    refine g_get Γ (pc := 9) (v := .ref (sq Y 1)) dX8_laysBack_9 (M_obj hM) fr_X8_7 rfl ?_
    refine g_iload_n Γ (pc := 12) 1 dX8_laysBack_12 rfl rfl ?_
    refine g_aload_n Γ (pc := 13) 0 dX8_laysBack_13 rfl rfl ?_
    refine g_get Γ (pc := 14) (v := .ref (sq Y 12)) dX8_laysBack_14 (M_obj hM) fr_X8_43 rfl ?_
    refine g_iload_n Γ (pc := 17) 1 dX8_laysBack_17 rfl rfl ?_
    refine g_iald Γ (pc := 18) dX8_laysBack_18 (M_12 hM) hf (fun v4 hf => ?_)
    refine g_iast Γ (pc := 19) dX8_laysBack_19 (M_1 hM) hf (fun m5 hf => ?_)
    refine g_iinc Γ (pc := 20) (v := x1_2 + 1) (lv' := [(1, .int (x1_2 + 1)), (0, .ref (sq Y 0))]) 1 dX8_laysBack_20 rfl rfl (by decide) rfl ?_
    refine g_goto Γ (pc := 23) (tgt := 2) dX8_laysBack_23 rfl ?_
    refine g_sub Γ [1, 0] rfl ?_
    exact kI1 (x1_2 + 1, m5) (Option.some.inj hf).symm
def f_X8_behind (a0 : Int32) (a1 : Int32) (μ : Mem) : Option (Int32 × Mem) :=
  bn1 (f_X8_isIn a0.toInt64 0 100) fun v1 =>
  if v1 = 0 then
    some ((-1000000001), μ)
  else
    bn1 (f_X8_isIn a1.toInt64 0 3) fun v2 =>
    if v2 = 0 then
      some ((-1000000001), μ)
    else
      bn1 (f_X8_laysBy μ) fun m3 =>
      bn1 (f_X8_goesOnMany a0 m3) fun m4 =>
      if a1 = 0 then
        bn1 (f_X8_allOff m4) fun v11 =>
        bn1 (f_X8_laysBack m4) fun m12 =>
        some (v11, m12)
      else
        if a1 = 1 then
          bn1 (ldM (m4 1) 3059 3) fun v9 =>
          bn1 (f_X8_laysBack m4) fun m10 =>
          some (v9, m10)
        else
          if a1 = 2 then
            bn1 (ldM (m4 1) 3059 4) fun v7 =>
            bn1 (f_X8_laysBack m4) fun m8 =>
            some (v7, m8)
          else
            bn1 (f_X8_forNow m4) fun v5 =>
            bn1 (f_X8_laysBack m4) fun m6 =>
            some (v5, m6)
set_option maxRecDepth 100000 in
set_option maxHeartbeats 4000000 in
theorem c_X8_behind {Y : SYS} (hM : IsM Y) {a0 : Int32} {a1 : Int32} {μ : Mem} {x : Int32} {m : Mem} (hf : f_X8_behind a0 a1 μ = some (x, m)) : KC Y yX8_behind cX8_behind 4 (some .int) 7 [.ref (sq Y 0), .int a0, .int a1] μ (some (.int x)) m := by
  refine KC.I RX8 [(0, .ref (sq Y 0)), (1, .int a0), (2, .int a1)] (by decide) rfl (Nat.le_of_ble_eq_true rfl) rfl (fun G Γ ret => ?_)
  unfold f_X8_behind at hf
  refine g_iload_n Γ (pc := 0) 1 dX8_behind_0 rfl rfl ?_
  refine g_i2l Γ (pc := 1) dX8_behind_1 ?_
  refine g_lconst Γ (pc := 2) (v := 0) dX8_behind_2 rfl ?_
  refine g_ldc2 Γ (pc := 3) dX8_behind_3 kL_X8_151 ?_
  obtain ⟨v1, h1, hf⟩ := bn1_i hf
  refine g_callSI Γ (pc := 6) (as := [.long a0.toInt64, .long 0, .long 100]) (st := []) dX8_behind_6 (c_X8_isIn h1) mi_X8_isIn ms_X8_isIn kM_X8_65 rfl ⟨Nat.le_of_ble_eq_true rfl, Nat.le_of_ble_eq_true rfl⟩ rfl (Nat.le_of_ble_eq_true rfl) ?_
  refine g_if_eq Γ (pc := 9) (tgt := 24) dX8_behind_9 rfl hf (fun hf => ?_) (fun hf => ?_)
  · refine g_ldc Γ (pc := 24) dX8_behind_24 kK_X8_78 ?_
    exact rI ret dX8_behind_26 hf
  · refine g_iload_n Γ (pc := 12) 2 dX8_behind_12 rfl rfl ?_
    refine g_i2l Γ (pc := 13) dX8_behind_13 ?_
    refine g_lconst Γ (pc := 14) (v := 0) dX8_behind_14 rfl ?_
    refine g_ldc2 Γ (pc := 15) dX8_behind_15 kL_X8_135 ?_
    obtain ⟨v2, h1, hf⟩ := bn1_i hf
    refine g_callSI Γ (pc := 18) (as := [.long a1.toInt64, .long 0, .long 3]) (st := []) dX8_behind_18 (c_X8_isIn h1) mi_X8_isIn ms_X8_isIn kM_X8_65 rfl ⟨Nat.le_of_ble_eq_true rfl, Nat.le_of_ble_eq_true rfl⟩ rfl (Nat.le_of_ble_eq_true rfl) ?_
    refine g_if_ne Γ (pc := 21) (tgt := 27) dX8_behind_21 rfl hf (fun hf => ?_) (fun hf => ?_)
    · refine g_aload_n Γ (pc := 27) 0 dX8_behind_27 rfl rfl ?_
      obtain ⟨m3, h1, hf⟩ := bn1_i hf
      refine g_callVV Γ (pc := 28) (as := []) (st := []) dX8_behind_28 (c_X8_laysBy hM h1) (M_obj hM) rfl mi_X8_laysBy mv_X8_laysBy kM_X8_206 rfl ⟨Nat.le_of_ble_eq_true rfl, Nat.le_of_ble_eq_true rfl⟩ rfl (Nat.le_of_ble_eq_true rfl) ?_
      refine g_aload_n Γ (pc := 31) 0 dX8_behind_31 rfl rfl ?_
      refine g_iload_n Γ (pc := 32) 1 dX8_behind_32 rfl rfl ?_
      obtain ⟨m4, h1, hf⟩ := bn1_i hf
      refine g_callVV Γ (pc := 33) (as := [.int a0]) (st := []) dX8_behind_33 (c_X8_goesOnMany hM h1) (M_obj hM) rfl mi_X8_goesOnMany mv_X8_goesOnMany kM_X8_209 rfl ⟨Nat.le_of_ble_eq_true rfl, Nat.le_of_ble_eq_true rfl⟩ rfl (Nat.le_of_ble_eq_true rfl) ?_
      refine g_iload_n Γ (pc := 36) 2 dX8_behind_36 rfl rfl ?_
      refine g_if_ne Γ (pc := 37) (tgt := 47) dX8_behind_37 rfl hf (fun hf => ?_) (fun hf => ?_)
      · refine g_iload_n Γ (pc := 47) 2 dX8_behind_47 rfl rfl ?_
        refine g_iconst Γ (pc := 48) (v := 1) dX8_behind_48 rfl ?_
        refine g_icmp_ne Γ (pc := 49) (tgt := 61) dX8_behind_49 rfl hf (fun hf => ?_) (fun hf => ?_)
        · refine g_iload_n Γ (pc := 61) 2 dX8_behind_61 rfl rfl ?_
          refine g_iconst Γ (pc := 62) (v := 2) dX8_behind_62 rfl ?_
          refine g_icmp_ne Γ (pc := 63) (tgt := 75) dX8_behind_63 rfl hf (fun hf => ?_) (fun hf => ?_)
          · refine g_aload_n Γ (pc := 75) 0 dX8_behind_75 rfl rfl ?_
            obtain ⟨v5, h1, hf⟩ := bn1_i hf
            refine g_callVI Γ (pc := 76) (as := []) (st := []) dX8_behind_76 (c_X8_forNow hM h1) (M_obj hM) rfl mi_X8_forNow mv_X8_forNow kM_X8_94 rfl ⟨Nat.le_of_ble_eq_true rfl, Nat.le_of_ble_eq_true rfl⟩ rfl (Nat.le_of_ble_eq_true rfl) ?_
            refine g_istore_n Γ (pc := 79) (lv' := [(3, .int v5), (0, .ref (sq Y 0)), (1, .int a0), (2, .int a1)]) dX8_behind_79 rfl (by decide) rfl ?_
            refine g_aload_n Γ (pc := 80) 1 dX8_behind_80 rfl rfl ?_
            obtain ⟨m6, h1, hf⟩ := bn1_i hf
            refine g_callVV Γ (pc := 81) (as := []) (st := []) dX8_behind_81 (c_X8_laysBack hM h1) (M_obj hM) rfl mi_X8_laysBack mv_X8_laysBack kM_X8_212 rfl ⟨Nat.le_of_ble_eq_true rfl, Nat.le_of_ble_eq_true rfl⟩ rfl (Nat.le_of_ble_eq_true rfl) ?_
            refine g_iload_n Γ (pc := 84) 0 dX8_behind_84 rfl rfl ?_
            exact rI ret dX8_behind_85 hf
          · refine g_aload_n Γ (pc := 66) 0 dX8_behind_66 rfl rfl ?_
            refine g_get Γ (pc := 67) (v := .ref (sq Y 1)) dX8_behind_67 (M_obj hM) fr_X8_7 rfl ?_
            refine g_iconst Γ (pc := 70) (v := 4) dX8_behind_70 rfl ?_
            refine g_iald Γ (pc := 71) dX8_behind_71 (M_1 hM) hf (fun v7 hf => ?_)
            refine g_goto Γ (pc := 72) (tgt := 79) dX8_behind_72 rfl ?_
            refine g_istore_n Γ (pc := 79) (lv' := [(3, .int v7), (0, .ref (sq Y 0)), (1, .int a0), (2, .int a1)]) dX8_behind_79 rfl (by decide) rfl ?_
            refine g_aload_n Γ (pc := 80) 1 dX8_behind_80 rfl rfl ?_
            obtain ⟨m8, h1, hf⟩ := bn1_i hf
            refine g_callVV Γ (pc := 81) (as := []) (st := []) dX8_behind_81 (c_X8_laysBack hM h1) (M_obj hM) rfl mi_X8_laysBack mv_X8_laysBack kM_X8_212 rfl ⟨Nat.le_of_ble_eq_true rfl, Nat.le_of_ble_eq_true rfl⟩ rfl (Nat.le_of_ble_eq_true rfl) ?_
            refine g_iload_n Γ (pc := 84) 0 dX8_behind_84 rfl rfl ?_
            exact rI ret dX8_behind_85 hf
        · refine g_aload_n Γ (pc := 52) 0 dX8_behind_52 rfl rfl ?_
          refine g_get Γ (pc := 53) (v := .ref (sq Y 1)) dX8_behind_53 (M_obj hM) fr_X8_7 rfl ?_
          refine g_iconst Γ (pc := 56) (v := 3) dX8_behind_56 rfl ?_
          refine g_iald Γ (pc := 57) dX8_behind_57 (M_1 hM) hf (fun v9 hf => ?_)
          refine g_goto Γ (pc := 58) (tgt := 79) dX8_behind_58 rfl ?_
          refine g_istore_n Γ (pc := 79) (lv' := [(3, .int v9), (0, .ref (sq Y 0)), (1, .int a0), (2, .int a1)]) dX8_behind_79 rfl (by decide) rfl ?_
          refine g_aload_n Γ (pc := 80) 1 dX8_behind_80 rfl rfl ?_
          obtain ⟨m10, h1, hf⟩ := bn1_i hf
          refine g_callVV Γ (pc := 81) (as := []) (st := []) dX8_behind_81 (c_X8_laysBack hM h1) (M_obj hM) rfl mi_X8_laysBack mv_X8_laysBack kM_X8_212 rfl ⟨Nat.le_of_ble_eq_true rfl, Nat.le_of_ble_eq_true rfl⟩ rfl (Nat.le_of_ble_eq_true rfl) ?_
          refine g_iload_n Γ (pc := 84) 0 dX8_behind_84 rfl rfl ?_
          exact rI ret dX8_behind_85 hf
      · refine g_aload_n Γ (pc := 40) 0 dX8_behind_40 rfl rfl ?_
        obtain ⟨v11, h1, hf⟩ := bn1_i hf
        refine g_callVI Γ (pc := 41) (as := []) (st := []) dX8_behind_41 (c_X8_allOff hM h1) (M_obj hM) rfl mi_X8_allOff mv_X8_allOff kM_X8_158 rfl ⟨Nat.le_of_ble_eq_true rfl, Nat.le_of_ble_eq_true rfl⟩ rfl (Nat.le_of_ble_eq_true rfl) ?_
        refine g_goto Γ (pc := 44) (tgt := 79) dX8_behind_44 rfl ?_
        refine g_istore_n Γ (pc := 79) (lv' := [(3, .int v11), (0, .ref (sq Y 0)), (1, .int a0), (2, .int a1)]) dX8_behind_79 rfl (by decide) rfl ?_
        refine g_aload_n Γ (pc := 80) 1 dX8_behind_80 rfl rfl ?_
        obtain ⟨m12, h1, hf⟩ := bn1_i hf
        refine g_callVV Γ (pc := 81) (as := []) (st := []) dX8_behind_81 (c_X8_laysBack hM h1) (M_obj hM) rfl mi_X8_laysBack mv_X8_laysBack kM_X8_212 rfl ⟨Nat.le_of_ble_eq_true rfl, Nat.le_of_ble_eq_true rfl⟩ rfl (Nat.le_of_ble_eq_true rfl) ?_
        refine g_iload_n Γ (pc := 84) 0 dX8_behind_84 rfl rfl ?_
        exact rI ret dX8_behind_85 hf
    · refine g_ldc Γ (pc := 24) dX8_behind_24 kK_X8_78 ?_
      exact rI ret dX8_behind_26 hf
def f_X8_settles_K8_46 (y1_2 : Int32) (m3 : Mem) : Option (Int32 × Mem) :=
  bn1 (f_X8_laysBack m3) fun m4 =>
  bn1 (f_X8_orNone y1_2) fun v5 =>
  some (v5, m4)
def f_X8_settles_J35 (x2_7 : Int32) (m8 : Mem) (s11 : Int32) : Option ((Int32 × Int32 × Mem) ⊕ (Int32 × Mem)) :=
  bn1 (f_X8_goesOn m8) fun m12 =>
  some (.inl (s11, x2_7 + 1, m12))
def f_X8_settles_L8 (x1_6 : Int32) (x2_7 : Int32) (m8 : Mem) : Option ((Int32 × Int32 × Mem) ⊕ (Int32 × Mem)) :=
  if 200 < x2_7 then
    some (.inr (x1_6, m8))
  else
    if 0 ≤ x1_6 then
      some (.inr (x1_6, m8))
    else
      bn1 (f_X8_forNow m8) fun v9 =>
      bn1 (f_X8_disorder v9 m8) fun v10 =>
      if v10 = 0 then
        f_X8_settles_J35 x2_7 m8 x2_7
      else
        f_X8_settles_J35 x2_7 m8 (-1)
def f_X8_settles (μ : Mem) : Option (Int32 × Mem) :=
  bn1 (f_X8_laysBy μ) fun m1 =>
  bn1 (lpF (fun v => f_X8_settles_L8 v.1 v.2.1 v.2.2) 4000 ((-1), 0, m1)) (fun x => f_X8_settles_K8_46 x.1 x.2)
set_option maxRecDepth 100000 in
set_option maxHeartbeats 4000000 in
theorem c_X8_settles {Y : SYS} (hM : IsM Y) {μ : Mem} {x : Int32} {m : Mem} (hf : f_X8_settles μ = some (x, m)) : KC Y yX8_settles cX8_settles 3 (some .int) 6 [.ref (sq Y 0)] μ (some (.int x)) m := by
  refine KC.I RX8 [(0, .ref (sq Y 0))] (by decide) rfl (Nat.le_of_ble_eq_true rfl) rfl (fun G Γ ret => ?_)
  unfold f_X8_settles at hf
  refine g_aload_n Γ (pc := 0) 0 dX8_settles_0 rfl rfl ?_
  obtain ⟨m1, h1, hf⟩ := bn1_i hf
  refine g_callVV Γ (pc := 1) (as := []) (st := []) dX8_settles_1 (c_X8_laysBy hM h1) (M_obj hM) rfl mi_X8_laysBy mv_X8_laysBy kM_X8_206 rfl ⟨Nat.le_of_ble_eq_true rfl, Nat.le_of_ble_eq_true rfl⟩ rfl (Nat.le_of_ble_eq_true rfl) ?_
  refine g_iconst Γ (pc := 4) (v := (-1)) dX8_settles_4 rfl ?_
  refine g_istore_n Γ (pc := 5) (lv' := [(1, .int (-1)), (0, .ref (sq Y 0))]) dX8_settles_5 rfl (by decide) rfl ?_
  refine g_iconst Γ (pc := 6) (v := 0) dX8_settles_6 rfl ?_
  refine g_istore_n Γ (pc := 7) (lv' := [(2, .int 0), (1, .int (-1)), (0, .ref (sq Y 0))]) dX8_settles_7 rfl (by decide) rfl ?_
  have K_8_46 : ∀ (y1_2 : Int32) (m3 : Mem), f_X8_settles_K8_46 y1_2 m3 = some (x, m) → G 46 [(0, .ref (sq Y 0)), (1, .int y1_2)] [] m3 := by
    intro y1_2 m3 hf
    unfold f_X8_settles_K8_46 at hf
    refine g_aload_n Γ (pc := 46) 0 dX8_settles_46 rfl rfl ?_
    obtain ⟨m4, h1, hf⟩ := bn1_i hf
    refine g_callVV Γ (pc := 47) (as := []) (st := []) dX8_settles_47 (c_X8_laysBack hM h1) (M_obj hM) rfl mi_X8_laysBack mv_X8_laysBack kM_X8_212 rfl ⟨Nat.le_of_ble_eq_true rfl, Nat.le_of_ble_eq_true rfl⟩ rfl (Nat.le_of_ble_eq_true rfl) ?_
    refine g_iload_n Γ (pc := 50) 1 dX8_settles_50 rfl rfl ?_
    obtain ⟨v5, h1, hf⟩ := bn1_i hf
    refine g_callSI Γ (pc := 51) (as := [.int y1_2]) (st := []) dX8_settles_51 (c_X8_orNone h1) mi_X8_orNone ms_X8_orNone kM_X8_179 rfl ⟨Nat.le_of_ble_eq_true rfl, Nat.le_of_ble_eq_true rfl⟩ rfl (Nat.le_of_ble_eq_true rfl) ?_
    exact rI ret dX8_settles_54 hf
  refine g_sub Γ [2, 1, 0] rfl ?_
  refine lpF_s (P := fun (v : Int32 × Int32 × Mem) => G 8 [(0, .ref (sq Y 0)), (1, .int v.1), (2, .int v.2.1)] [] v.2.2) hf (fun v z1 hf kI1 kX1 => ?_)
  obtain ⟨x1_6, x2_7, m8⟩ := v
  replace hf : f_X8_settles_L8 x1_6 x2_7 m8 = some z1 := hf
  show G 8 [(0, .ref (sq Y 0)), (1, .int x1_6), (2, .int x2_7)] [] m8
  unfold f_X8_settles_L8 at hf
  refine g_iload_n Γ (pc := 8) 2 dX8_settles_8 rfl rfl ?_
  refine g_sipush Γ (pc := 9) (v := 200) dX8_settles_9 rfl ?_
  refine g_icmp_gt Γ (pc := 12) (tgt := 46) dX8_settles_12 rfl hf (fun hf => ?_) (fun hf => ?_)
  · refine g_sub Γ [0, 1] rfl ?_
    exact K_8_46 x1_6 m8 (kX1 (x1_6, m8) (Option.some.inj hf).symm)
  · refine g_iload_n Γ (pc := 15) 1 dX8_settles_15 rfl rfl ?_
    refine g_if_ge Γ (pc := 16) (tgt := 46) dX8_settles_16 rfl hf (fun hf => ?_) (fun hf => ?_)
    · refine g_sub Γ [0, 1] rfl ?_
      exact K_8_46 x1_6 m8 (kX1 (x1_6, m8) (Option.some.inj hf).symm)
    · refine g_aload_n Γ (pc := 19) 0 dX8_settles_19 rfl rfl ?_
      refine g_aload_n Γ (pc := 20) 0 dX8_settles_20 rfl rfl ?_
      obtain ⟨v9, h1, hf⟩ := bn1_i hf
      refine g_callVI Γ (pc := 21) (as := []) (st := [.ref (sq Y 0)]) dX8_settles_21 (c_X8_forNow hM h1) (M_obj hM) rfl mi_X8_forNow mv_X8_forNow kM_X8_94 rfl ⟨Nat.le_of_ble_eq_true rfl, Nat.le_of_ble_eq_true rfl⟩ rfl (Nat.le_of_ble_eq_true rfl) ?_
      obtain ⟨v10, h1, hf⟩ := bn1_i hf
      refine g_callVI Γ (pc := 24) (as := [.int v9]) (st := []) dX8_settles_24 (c_X8_disorder hM h1) (M_obj hM) rfl mi_X8_disorder mv_X8_disorder kM_X8_161 rfl ⟨Nat.le_of_ble_eq_true rfl, Nat.le_of_ble_eq_true rfl⟩ rfl (Nat.le_of_ble_eq_true rfl) ?_
      have J_35 : ∀ (s11 : Int32), f_X8_settles_J35 x2_7 m8 s11 = some z1 → G 35 [(0, .ref (sq Y 0)), (2, .int x2_7)] [.int s11] m8 := by
        intro s11 hf
        unfold f_X8_settles_J35 at hf
        refine g_istore_n Γ (pc := 35) (lv' := [(1, .int s11), (0, .ref (sq Y 0)), (2, .int x2_7)]) dX8_settles_35 rfl (by decide) rfl ?_
        refine g_aload_n Γ (pc := 36) 1 dX8_settles_36 rfl rfl ?_
        obtain ⟨m12, h1, hf⟩ := bn1_i hf
        refine g_callVV Γ (pc := 37) (as := []) (st := []) dX8_settles_37 (c_X8_goesOn hM h1) (M_obj hM) rfl mi_X8_goesOn mv_X8_goesOn kM_X8_203 rfl ⟨Nat.le_of_ble_eq_true rfl, Nat.le_of_ble_eq_true rfl⟩ rfl (Nat.le_of_ble_eq_true rfl) ?_
        refine g_iinc Γ (pc := 40) (v := x2_7 + 1) (lv' := [(2, .int (x2_7 + 1)), (1, .int s11), (0, .ref (sq Y 0))]) 2 dX8_settles_40 rfl rfl (by decide) rfl ?_
        refine g_goto Γ (pc := 43) (tgt := 8) dX8_settles_43 rfl ?_
        refine g_sub Γ [2, 1, 0] rfl ?_
        exact kI1 (s11, x2_7 + 1, m12) (Option.some.inj hf).symm
      refine g_if_ne Γ (pc := 27) (tgt := 34) dX8_settles_27 rfl hf (fun hf => ?_) (fun hf => ?_)
      · refine g_iconst Γ (pc := 34) (v := (-1)) dX8_settles_34 rfl ?_
        refine g_sub Γ [0, 2] rfl ?_
        exact J_35 (-1) hf
      · refine g_iload_n Γ (pc := 30) 2 dX8_settles_30 rfl rfl ?_
        refine g_goto Γ (pc := 31) (tgt := 35) dX8_settles_31 rfl ?_
        refine g_sub Γ [0, 2] rfl ?_
        exact J_35 x2_7 hf
def f_X8_won_K37_103 (a1 : Int32) (y3_4 : Int32) (y4_5 : Int32) (m6 : Mem) : Option (Int32 × Mem) :=
  if 0 ≤ y3_4 then
    if a1 = 0 then
      some (y3_4, m6)
    else
      some (y4_5, m6)
  else
    some ((-1000000005), m6)
def f_X8_won_J97 (x5_9 : Int32) (m16 : Mem) (x3_17 : Int32) (x4_18 : Int32) : Option ((Int32 × Int32 × Int32 × Mem) ⊕ (Int32 × Int32 × Mem)) :=
  some (.inl (x3_17, x4_18, x5_9 + 1, m16))
def f_X8_won_J90 (x5_9 : Int32) (v15 : Int32) (m16 : Mem) : Option ((Int32 × Int32 × Int32 × Mem) ⊕ (Int32 × Int32 × Mem)) :=
  f_X8_won_J97 x5_9 m16 x5_9 v15
def f_X8_won_L37 (a0 : Int32) (x3_7 : Int32) (x4_8 : Int32) (x5_9 : Int32) (m10 : Mem) : Option ((Int32 × Int32 × Int32 × Mem) ⊕ (Int32 × Int32 × Mem)) :=
  bn1 (ldM (m10 1) 3059 0) fun v11 =>
  if v11 ≤ x5_9 then
    some (.inr (x3_7, x4_8, m10))
  else
    bn1 (f_X8_of x5_9 1 m10) fun v12 =>
    bn1 (f_X8_sets x5_9 1 (1 - v12) m10) fun m13 =>
    bn1 (f_X8_goesOnMany a0 m13) fun m14 =>
    bn1 (f_X8_allOff m14) fun v15 =>
    bn1 (f_X8_laysBack m14) fun m16 =>
    if x3_7 < 0 then
      f_X8_won_J90 x5_9 v15 m16
    else
      if x4_8 ≤ v15 then
        f_X8_won_J97 x5_9 m16 x3_7 x4_8
      else
        f_X8_won_J90 x5_9 v15 m16
def f_X8_won (a0 : Int32) (a1 : Int32) (μ : Mem) : Option (Int32 × Mem) :=
  bn1 (f_X8_isIn a0.toInt64 1 60) fun v1 =>
  if v1 = 0 then
    some ((-1000000001), μ)
  else
    bn1 (f_X8_isIn a1.toInt64 0 1) fun v2 =>
    if v2 = 0 then
      some ((-1000000001), μ)
    else
      bn1 (f_X8_laysBy μ) fun m3 =>
      bn1 (lpF (fun v => f_X8_won_L37 a0 v.1 v.2.1 v.2.2.1 v.2.2.2) 4000 ((-1), 0, 0, m3)) (fun x => f_X8_won_K37_103 a1 x.1 x.2.1 x.2.2)
set_option maxRecDepth 100000 in
set_option maxHeartbeats 4000000 in
theorem c_X8_won {Y : SYS} (hM : IsM Y) {a0 : Int32} {a1 : Int32} {μ : Mem} {x : Int32} {m : Mem} (hf : f_X8_won a0 a1 μ = some (x, m)) : KC Y yX8_won cX8_won 7 (some .int) 7 [.ref (sq Y 0), .int a0, .int a1] μ (some (.int x)) m := by
  refine KC.I RX8 [(0, .ref (sq Y 0)), (1, .int a0), (2, .int a1)] (by decide) rfl (Nat.le_of_ble_eq_true rfl) rfl (fun G Γ ret => ?_)
  unfold f_X8_won at hf
  refine g_iload_n Γ (pc := 0) 1 dX8_won_0 rfl rfl ?_
  refine g_i2l Γ (pc := 1) dX8_won_1 ?_
  refine g_lconst Γ (pc := 2) (v := 1) dX8_won_2 rfl ?_
  refine g_ldc2 Γ (pc := 3) dX8_won_3 kL_X8_215 ?_
  obtain ⟨v1, h1, hf⟩ := bn1_i hf
  refine g_callSI Γ (pc := 6) (as := [.long a0.toInt64, .long 1, .long 60]) (st := []) dX8_won_6 (c_X8_isIn h1) mi_X8_isIn ms_X8_isIn kM_X8_65 rfl ⟨Nat.le_of_ble_eq_true rfl, Nat.le_of_ble_eq_true rfl⟩ rfl (Nat.le_of_ble_eq_true rfl) ?_
  refine g_if_eq Γ (pc := 9) (tgt := 22) dX8_won_9 rfl hf (fun hf => ?_) (fun hf => ?_)
  · refine g_ldc Γ (pc := 22) dX8_won_22 kK_X8_78 ?_
    exact rI ret dX8_won_24 hf
  · refine g_iload_n Γ (pc := 12) 2 dX8_won_12 rfl rfl ?_
    refine g_i2l Γ (pc := 13) dX8_won_13 ?_
    refine g_lconst Γ (pc := 14) (v := 0) dX8_won_14 rfl ?_
    refine g_lconst Γ (pc := 15) (v := 1) dX8_won_15 rfl ?_
    obtain ⟨v2, h1, hf⟩ := bn1_i hf
    refine g_callSI Γ (pc := 16) (as := [.long a1.toInt64, .long 0, .long 1]) (st := []) dX8_won_16 (c_X8_isIn h1) mi_X8_isIn ms_X8_isIn kM_X8_65 rfl ⟨Nat.le_of_ble_eq_true rfl, Nat.le_of_ble_eq_true rfl⟩ rfl (Nat.le_of_ble_eq_true rfl) ?_
    refine g_if_ne Γ (pc := 19) (tgt := 25) dX8_won_19 rfl hf (fun hf => ?_) (fun hf => ?_)
    · refine g_aload_n Γ (pc := 25) 0 dX8_won_25 rfl rfl ?_
      obtain ⟨m3, h1, hf⟩ := bn1_i hf
      refine g_callVV Γ (pc := 26) (as := []) (st := []) dX8_won_26 (c_X8_laysBy hM h1) (M_obj hM) rfl mi_X8_laysBy mv_X8_laysBy kM_X8_206 rfl ⟨Nat.le_of_ble_eq_true rfl, Nat.le_of_ble_eq_true rfl⟩ rfl (Nat.le_of_ble_eq_true rfl) ?_
      refine g_iconst Γ (pc := 29) (v := (-1)) dX8_won_29 rfl ?_
      refine g_istore_n Γ (pc := 30) (lv' := [(3, .int (-1)), (0, .ref (sq Y 0)), (1, .int a0), (2, .int a1)]) dX8_won_30 rfl (by decide) rfl ?_
      refine g_iconst Γ (pc := 31) (v := 0) dX8_won_31 rfl ?_
      refine g_istore Γ (pc := 32) (lv' := [(4, .int 0), (3, .int (-1)), (0, .ref (sq Y 0)), (1, .int a0), (2, .int a1)]) dX8_won_32 (by decide) rfl ?_
      refine g_iconst Γ (pc := 34) (v := 0) dX8_won_34 rfl ?_
      refine g_istore Γ (pc := 35) (lv' := [(5, .int 0), (4, .int 0), (3, .int (-1)), (0, .ref (sq Y 0)), (1, .int a0), (2, .int a1)]) dX8_won_35 (by decide) rfl ?_
      have K_37_103 : ∀ (y3_4 : Int32) (y4_5 : Int32) (m6 : Mem), f_X8_won_K37_103 a1 y3_4 y4_5 m6 = some (x, m) → G 103 [(2, .int a1), (3, .int y3_4), (4, .int y4_5)] [] m6 := by
        intro y3_4 y4_5 m6 hf
        unfold f_X8_won_K37_103 at hf
        refine g_iload_n Γ (pc := 103) 1 dX8_won_103 rfl rfl ?_
        refine g_if_ge Γ (pc := 104) (tgt := 112) dX8_won_104 rfl hf (fun hf => ?_) (fun hf => ?_)
        · refine g_iload_n Γ (pc := 112) 0 dX8_won_112 rfl rfl ?_
          refine g_if_ne Γ (pc := 113) (tgt := 120) dX8_won_113 rfl hf (fun hf => ?_) (fun hf => ?_)
          · refine g_iload Γ (pc := 120) 2 dX8_won_120 rfl ?_
            exact rI ret dX8_won_122 hf
          · refine g_iload_n Γ (pc := 116) 1 dX8_won_116 rfl rfl ?_
            refine g_goto Γ (pc := 117) (tgt := 122) dX8_won_117 rfl ?_
            exact rI ret dX8_won_122 hf
        · refine g_ldc Γ (pc := 107) dX8_won_107 kK_X8_64 ?_
          refine g_goto Γ (pc := 109) (tgt := 122) dX8_won_109 rfl ?_
          exact rI ret dX8_won_122 hf
      refine g_sub Γ [3, 4, 5, 2, 1, 0] rfl ?_
      refine lpF_s (P := fun (v : Int32 × Int32 × Int32 × Mem) => G 37 [(0, .ref (sq Y 0)), (1, .int a0), (2, .int a1), (3, .int v.1), (4, .int v.2.1), (5, .int v.2.2.1)] [] v.2.2.2) hf (fun v z1 hf kI1 kX1 => ?_)
      obtain ⟨x3_7, x4_8, x5_9, m10⟩ := v
      replace hf : f_X8_won_L37 a0 x3_7 x4_8 x5_9 m10 = some z1 := hf
      show G 37 [(0, .ref (sq Y 0)), (1, .int a0), (2, .int a1), (3, .int x3_7), (4, .int x4_8), (5, .int x5_9)] [] m10
      unfold f_X8_won_L37 at hf
      refine g_iload Γ (pc := 37) 5 dX8_won_37 rfl ?_
      refine g_aload_n Γ (pc := 39) 0 dX8_won_39 rfl rfl ?_
      refine g_get Γ (pc := 40) (v := .ref (sq Y 1)) dX8_won_40 (M_obj hM) fr_X8_7 rfl ?_
      refine g_iconst Γ (pc := 43) (v := 0) dX8_won_43 rfl ?_
      refine g_iald Γ (pc := 44) dX8_won_44 (M_1 hM) hf (fun v11 hf => ?_)
      refine g_icmp_ge Γ (pc := 45) (tgt := 103) dX8_won_45 rfl hf (fun hf => ?_) (fun hf => ?_)
      · refine g_sub Γ [2, 3, 4] rfl ?_
        exact K_37_103 x3_7 x4_8 m10 (kX1 (x3_7, x4_8, m10) (Option.some.inj hf).symm)
      · refine g_aload_n Γ (pc := 48) 0 dX8_won_48 rfl rfl ?_
        refine g_iload Γ (pc := 49) 5 dX8_won_49 rfl ?_
        refine g_iconst Γ (pc := 51) (v := 1) dX8_won_51 rfl ?_
        refine g_iconst Γ (pc := 52) (v := 1) dX8_won_52 rfl ?_
        refine g_aload_n Γ (pc := 53) 0 dX8_won_53 rfl rfl ?_
        refine g_iload Γ (pc := 54) 5 dX8_won_54 rfl ?_
        refine g_iconst Γ (pc := 56) (v := 1) dX8_won_56 rfl ?_
        obtain ⟨v12, h1, hf⟩ := bn1_i hf
        refine g_callVI Γ (pc := 57) (as := [.int x5_9, .int 1]) (st := [.int 1, .int 1, .int x5_9, .ref (sq Y 0)]) dX8_won_57 (c_X8_of hM h1) (M_obj hM) rfl mi_X8_of mv_X8_of kM_X8_83 rfl ⟨Nat.le_of_ble_eq_true rfl, Nat.le_of_ble_eq_true rfl⟩ rfl (Nat.le_of_ble_eq_true rfl) ?_
        refine g_isub Γ (pc := 60) dX8_won_60 ?_
        obtain ⟨m13, h1, hf⟩ := bn1_i hf
        refine g_callVV Γ (pc := 61) (as := [.int x5_9, .int 1, .int (1 - v12)]) (st := []) dX8_won_61 (c_X8_sets hM h1) (M_obj hM) rfl mi_X8_sets mv_X8_sets kM_X8_70 rfl ⟨Nat.le_of_ble_eq_true rfl, Nat.le_of_ble_eq_true rfl⟩ rfl (Nat.le_of_ble_eq_true rfl) ?_
        refine g_aload_n Γ (pc := 64) 0 dX8_won_64 rfl rfl ?_
        refine g_iload_n Γ (pc := 65) 1 dX8_won_65 rfl rfl ?_
        obtain ⟨m14, h1, hf⟩ := bn1_i hf
        refine g_callVV Γ (pc := 66) (as := [.int a0]) (st := []) dX8_won_66 (c_X8_goesOnMany hM h1) (M_obj hM) rfl mi_X8_goesOnMany mv_X8_goesOnMany kM_X8_209 rfl ⟨Nat.le_of_ble_eq_true rfl, Nat.le_of_ble_eq_true rfl⟩ rfl (Nat.le_of_ble_eq_true rfl) ?_
        refine g_aload_n Γ (pc := 69) 0 dX8_won_69 rfl rfl ?_
        obtain ⟨v15, h1, hf⟩ := bn1_i hf
        refine g_callVI Γ (pc := 70) (as := []) (st := []) dX8_won_70 (c_X8_allOff hM h1) (M_obj hM) rfl mi_X8_allOff mv_X8_allOff kM_X8_158 rfl ⟨Nat.le_of_ble_eq_true rfl, Nat.le_of_ble_eq_true rfl⟩ rfl (Nat.le_of_ble_eq_true rfl) ?_
        refine g_istore Γ (pc := 73) (lv' := [(6, .int v15), (0, .ref (sq Y 0)), (1, .int a0), (2, .int a1), (3, .int x3_7), (4, .int x4_8), (5, .int x5_9)]) dX8_won_73 (by decide) rfl ?_
        refine g_aload_n Γ (pc := 75) 1 dX8_won_75 rfl rfl ?_
        obtain ⟨m16, h1, hf⟩ := bn1_i hf
        refine g_callVV Γ (pc := 76) (as := []) (st := []) dX8_won_76 (c_X8_laysBack hM h1) (M_obj hM) rfl mi_X8_laysBack mv_X8_laysBack kM_X8_212 rfl ⟨Nat.le_of_ble_eq_true rfl, Nat.le_of_ble_eq_true rfl⟩ rfl (Nat.le_of_ble_eq_true rfl) ?_
        refine g_iload_n Γ (pc := 79) 4 dX8_won_79 rfl rfl ?_
        have J_97 : ∀ (x3_17 : Int32) (x4_18 : Int32), f_X8_won_J97 x5_9 m16 x3_17 x4_18 = some z1 → G 97 [(0, .ref (sq Y 0)), (1, .int a0), (2, .int a1), (3, .int x3_17), (4, .int x4_18), (5, .int x5_9)] [] m16 := by
          intro x3_17 x4_18 hf
          unfold f_X8_won_J97 at hf
          refine g_iinc Γ (pc := 97) (v := x5_9 + 1) (lv' := [(5, .int (x5_9 + 1)), (0, .ref (sq Y 0)), (1, .int a0), (2, .int a1), (3, .int x3_17), (4, .int x4_18)]) 5 dX8_won_97 rfl rfl (by decide) rfl ?_
          refine g_goto Γ (pc := 100) (tgt := 37) dX8_won_100 rfl ?_
          refine g_sub Γ [1, 2, 3, 4, 5, 0] rfl ?_
          exact kI1 (x3_17, x4_18, x5_9 + 1, m16) (Option.some.inj hf).symm
        have J_90 : f_X8_won_J90 x5_9 v15 m16 = some z1 → G 90 [(0, .ref (sq Y 0)), (1, .int a0), (2, .int a1), (5, .int x5_9), (6, .int v15)] [] m16 := by
          intro hf
          unfold f_X8_won_J90 at hf
          refine g_iload Γ (pc := 90) 3 dX8_won_90 rfl ?_
          refine g_istore_n Γ (pc := 92) (lv' := [(3, .int x5_9), (0, .ref (sq Y 0)), (1, .int a0), (2, .int a1), (5, .int x5_9), (6, .int v15)]) dX8_won_92 rfl (by decide) rfl ?_
          refine g_iload Γ (pc := 93) 5 dX8_won_93 rfl ?_
          refine g_istore Γ (pc := 95) (lv' := [(4, .int v15), (3, .int x5_9), (0, .ref (sq Y 0)), (1, .int a0), (2, .int a1), (5, .int x5_9), (6, .int v15)]) dX8_won_95 (by decide) rfl ?_
          refine g_sub Γ [2, 3, 4, 1, 0, 5] rfl ?_
          exact J_97 x5_9 v15 hf
        refine g_if_lt Γ (pc := 80) (tgt := 90) dX8_won_80 rfl hf (fun hf => ?_) (fun hf => ?_)
        · refine g_sub Γ [1, 2, 3, 6, 0] rfl ?_
          exact J_90 hf
        · refine g_iload Γ (pc := 83) 0 dX8_won_83 rfl ?_
          refine g_iload Γ (pc := 85) 5 dX8_won_85 rfl ?_
          refine g_icmp_ge Γ (pc := 87) (tgt := 97) dX8_won_87 rfl hf (fun hf => ?_) (fun hf => ?_)
          · refine g_sub Γ [1, 2, 3, 4, 5, 6] rfl ?_
            exact J_97 x3_7 x4_8 hf
          · refine g_sub Γ [1, 2, 3, 6, 0] rfl ?_
            exact J_90 hf
    · refine g_ldc Γ (pc := 22) dX8_won_22 kK_X8_78 ?_
      exact rI ret dX8_won_24 hf
def f_X8_fee (μ : Mem) : Option (Int32 × Mem) :=
  bn1 (f_X8_counts 1 μ) fun v1 =>
  if 0 ≤ v1 then
    bn1 (ldM (μ 1) 3059 3) fun v2 =>
    bn1 (stM μ 14 128 99 v2) fun m3 =>
    bn1 (ldM (m3 1) 3059 2) fun v4 =>
    bn1 (stM m3 14 128 121 v4) fun m5 =>
    bn2 (f_X8_worked v1 m5) fun v6 m7 =>
    some (v6, m7)
  else
    bn1 (ldM (μ 1) 3059 3) fun v8 =>
    some (v8, μ)
set_option maxRecDepth 100000 in
set_option maxHeartbeats 4000000 in
theorem c_X8_fee {Y : SYS} (hM : IsM Y) {μ : Mem} {x : Int32} {m : Mem} (hf : f_X8_fee μ = some (x, m)) : KC Y yX8_fee cX8_fee 2 (some .int) 2 [.ref (sq Y 0)] μ (some (.int x)) m := by
  refine KC.I RX8 [(0, .ref (sq Y 0))] (by decide) rfl (Nat.le_of_ble_eq_true rfl) rfl (fun G Γ ret => ?_)
  unfold f_X8_fee at hf
  refine g_aload_n Γ (pc := 0) 0 dX8_fee_0 rfl rfl ?_
  refine g_iconst Γ (pc := 1) (v := 1) dX8_fee_1 rfl ?_
  obtain ⟨v1, h1, hf⟩ := bn1_i hf
  refine g_callVI Γ (pc := 2) (as := [.int 1]) (st := []) dX8_fee_2 (c_X8_counts hM h1) (M_obj hM) rfl mi_X8_counts mv_X8_counts kM_X8_104 rfl ⟨Nat.le_of_ble_eq_true rfl, Nat.le_of_ble_eq_true rfl⟩ rfl (Nat.le_of_ble_eq_true rfl) ?_
  refine g_istore_n Γ (pc := 5) (lv' := [(1, .int v1), (0, .ref (sq Y 0))]) dX8_fee_5 rfl (by decide) rfl ?_
  refine g_iload_n Γ (pc := 6) 0 dX8_fee_6 rfl rfl ?_
  refine g_if_ge Γ (pc := 7) (tgt := 17) dX8_fee_7 rfl hf (fun hf => ?_) (fun hf => ?_)
  · refine g_aload_n Γ (pc := 17) 1 dX8_fee_17 rfl rfl ?_
    refine g_get Γ (pc := 18) (v := .ref (sq Y 14)) dX8_fee_18 (M_obj hM) fr_X8_49 rfl ?_
    refine g_bipush Γ (pc := 21) (v := 99) dX8_fee_21 rfl ?_
    refine g_aload_n Γ (pc := 23) 1 dX8_fee_23 rfl rfl ?_
    refine g_get Γ (pc := 24) (v := .ref (sq Y 1)) dX8_fee_24 (M_obj hM) fr_X8_7 rfl ?_
    refine g_iconst Γ (pc := 27) (v := 3) dX8_fee_27 rfl ?_
    refine g_iald Γ (pc := 28) dX8_fee_28 (M_1 hM) hf (fun v2 hf => ?_)
    refine g_iast Γ (pc := 29) dX8_fee_29 (M_14 hM) hf (fun m3 hf => ?_)
    refine g_aload_n Γ (pc := 30) 1 dX8_fee_30 rfl rfl ?_
    refine g_get Γ (pc := 31) (v := .ref (sq Y 14)) dX8_fee_31 (M_obj hM) fr_X8_49 rfl ?_
    refine g_bipush Γ (pc := 34) (v := 121) dX8_fee_34 rfl ?_
    refine g_aload_n Γ (pc := 36) 1 dX8_fee_36 rfl rfl ?_
    refine g_get Γ (pc := 37) (v := .ref (sq Y 1)) dX8_fee_37 (M_obj hM) fr_X8_7 rfl ?_
    refine g_iconst Γ (pc := 40) (v := 2) dX8_fee_40 rfl ?_
    refine g_iald Γ (pc := 41) dX8_fee_41 (M_1 hM) hf (fun v4 hf => ?_)
    refine g_iast Γ (pc := 42) dX8_fee_42 (M_14 hM) hf (fun m5 hf => ?_)
    refine g_aload_n Γ (pc := 43) 1 dX8_fee_43 rfl rfl ?_
    refine g_iload_n Γ (pc := 44) 0 dX8_fee_44 rfl rfl ?_
    obtain ⟨v6, m7, h1, hf⟩ := bn2_i hf
    refine g_callVI Γ (pc := 45) (as := [.int v1]) (st := []) dX8_fee_45 (c_X8_worked hM h1) (M_obj hM) rfl mi_X8_worked mv_X8_worked kM_X8_107 rfl ⟨Nat.le_of_ble_eq_true rfl, Nat.le_of_ble_eq_true rfl⟩ rfl (Nat.le_of_ble_eq_true rfl) ?_
    exact rI ret dX8_fee_48 hf
  · refine g_aload_n Γ (pc := 10) 1 dX8_fee_10 rfl rfl ?_
    refine g_get Γ (pc := 11) (v := .ref (sq Y 1)) dX8_fee_11 (M_obj hM) fr_X8_7 rfl ?_
    refine g_iconst Γ (pc := 14) (v := 3) dX8_fee_14 rfl ?_
    refine g_iald Γ (pc := 15) dX8_fee_15 (M_1 hM) hf (fun v8 hf => ?_)
    exact rI ret dX8_fee_16 hf
def f_X8_fine (a0 : Int32) (μ : Mem) : Option (Int32 × Mem) :=
  bn1 (f_X8_isOne a0 μ) fun v1 =>
  if v1 = 0 then
    some ((-1000000001), μ)
  else
    bn1 (f_X8_counts 2 μ) fun v2 =>
    if 0 ≤ v2 then
      bn1 (f_X8_offOf a0 μ) fun v3 =>
      bn1 (stM μ 14 128 111 v3) fun m4 =>
      bn1 (f_X8_of a0 3 m4) fun v5 =>
      bn1 (stM m4 14 128 112 v5) fun m6 =>
      bn2 (f_X8_worked v2 m6) fun v7 m8 =>
      some (v7, m8)
    else
      bn1 (f_X8_offOf a0 μ) fun v9 =>
      some (v9, μ)
set_option maxRecDepth 100000 in
set_option maxHeartbeats 4000000 in
theorem c_X8_fine {Y : SYS} (hM : IsM Y) {a0 : Int32} {μ : Mem} {x : Int32} {m : Mem} (hf : f_X8_fine a0 μ = some (x, m)) : KC Y yX8_fine cX8_fine 3 (some .int) 3 [.ref (sq Y 0), .int a0] μ (some (.int x)) m := by
  refine KC.I RX8 [(0, .ref (sq Y 0)), (1, .int a0)] (by decide) rfl (Nat.le_of_ble_eq_true rfl) rfl (fun G Γ ret => ?_)
  unfold f_X8_fine at hf
  refine g_aload_n Γ (pc := 0) 0 dX8_fine_0 rfl rfl ?_
  refine g_iload_n Γ (pc := 1) 1 dX8_fine_1 rfl rfl ?_
  obtain ⟨v1, h1, hf⟩ := bn1_i hf
  refine g_callVI Γ (pc := 2) (as := [.int a0]) (st := []) dX8_fine_2 (c_X8_isOne hM h1) (M_obj hM) rfl mi_X8_isOne mv_X8_isOne kM_X8_114 rfl ⟨Nat.le_of_ble_eq_true rfl, Nat.le_of_ble_eq_true rfl⟩ rfl (Nat.le_of_ble_eq_true rfl) ?_
  refine g_if_ne Γ (pc := 5) (tgt := 11) dX8_fine_5 rfl hf (fun hf => ?_) (fun hf => ?_)
  · refine g_aload_n Γ (pc := 11) 0 dX8_fine_11 rfl rfl ?_
    refine g_iconst Γ (pc := 12) (v := 2) dX8_fine_12 rfl ?_
    obtain ⟨v2, h1, hf⟩ := bn1_i hf
    refine g_callVI Γ (pc := 13) (as := [.int 2]) (st := []) dX8_fine_13 (c_X8_counts hM h1) (M_obj hM) rfl mi_X8_counts mv_X8_counts kM_X8_104 rfl ⟨Nat.le_of_ble_eq_true rfl, Nat.le_of_ble_eq_true rfl⟩ rfl (Nat.le_of_ble_eq_true rfl) ?_
    refine g_istore_n Γ (pc := 16) (lv' := [(2, .int v2), (0, .ref (sq Y 0)), (1, .int a0)]) dX8_fine_16 rfl (by decide) rfl ?_
    refine g_iload_n Γ (pc := 17) 0 dX8_fine_17 rfl rfl ?_
    refine g_if_ge Γ (pc := 18) (tgt := 27) dX8_fine_18 rfl hf (fun hf => ?_) (fun hf => ?_)
    · refine g_aload_n Γ (pc := 27) 1 dX8_fine_27 rfl rfl ?_
      refine g_get Γ (pc := 28) (v := .ref (sq Y 14)) dX8_fine_28 (M_obj hM) fr_X8_49 rfl ?_
      refine g_bipush Γ (pc := 31) (v := 111) dX8_fine_31 rfl ?_
      refine g_aload_n Γ (pc := 33) 1 dX8_fine_33 rfl rfl ?_
      refine g_iload_n Γ (pc := 34) 2 dX8_fine_34 rfl rfl ?_
      obtain ⟨v3, h1, hf⟩ := bn1_i hf
      refine g_callVI Γ (pc := 35) (as := [.int a0]) (st := [.int 111, .ref (sq Y 14)]) dX8_fine_35 (c_X8_offOf hM h1) (M_obj hM) rfl mi_X8_offOf mv_X8_offOf kM_X8_101 rfl ⟨Nat.le_of_ble_eq_true rfl, Nat.le_of_ble_eq_true rfl⟩ rfl (Nat.le_of_ble_eq_true rfl) ?_
      refine g_iast Γ (pc := 38) dX8_fine_38 (M_14 hM) hf (fun m4 hf => ?_)
      refine g_aload_n Γ (pc := 39) 1 dX8_fine_39 rfl rfl ?_
      refine g_get Γ (pc := 40) (v := .ref (sq Y 14)) dX8_fine_40 (M_obj hM) fr_X8_49 rfl ?_
      refine g_bipush Γ (pc := 43) (v := 112) dX8_fine_43 rfl ?_
      refine g_aload_n Γ (pc := 45) 1 dX8_fine_45 rfl rfl ?_
      refine g_iload_n Γ (pc := 46) 2 dX8_fine_46 rfl rfl ?_
      refine g_iconst Γ (pc := 47) (v := 3) dX8_fine_47 rfl ?_
      obtain ⟨v5, h1, hf⟩ := bn1_i hf
      refine g_callVI Γ (pc := 48) (as := [.int a0, .int 3]) (st := [.int 112, .ref (sq Y 14)]) dX8_fine_48 (c_X8_of hM h1) (M_obj hM) rfl mi_X8_of mv_X8_of kM_X8_83 rfl ⟨Nat.le_of_ble_eq_true rfl, Nat.le_of_ble_eq_true rfl⟩ rfl (Nat.le_of_ble_eq_true rfl) ?_
      refine g_iast Γ (pc := 51) dX8_fine_51 (M_14 hM) hf (fun m6 hf => ?_)
      refine g_aload_n Γ (pc := 52) 1 dX8_fine_52 rfl rfl ?_
      refine g_iload_n Γ (pc := 53) 0 dX8_fine_53 rfl rfl ?_
      obtain ⟨v7, m8, h1, hf⟩ := bn2_i hf
      refine g_callVI Γ (pc := 54) (as := [.int v2]) (st := []) dX8_fine_54 (c_X8_worked hM h1) (M_obj hM) rfl mi_X8_worked mv_X8_worked kM_X8_107 rfl ⟨Nat.le_of_ble_eq_true rfl, Nat.le_of_ble_eq_true rfl⟩ rfl (Nat.le_of_ble_eq_true rfl) ?_
      exact rI ret dX8_fine_57 hf
    · refine g_aload_n Γ (pc := 21) 1 dX8_fine_21 rfl rfl ?_
      refine g_iload_n Γ (pc := 22) 2 dX8_fine_22 rfl rfl ?_
      obtain ⟨v9, h1, hf⟩ := bn1_i hf
      refine g_callVI Γ (pc := 23) (as := [.int a0]) (st := []) dX8_fine_23 (c_X8_offOf hM h1) (M_obj hM) rfl mi_X8_offOf mv_X8_offOf kM_X8_101 rfl ⟨Nat.le_of_ble_eq_true rfl, Nat.le_of_ble_eq_true rfl⟩ rfl (Nat.le_of_ble_eq_true rfl) ?_
      exact rI ret dX8_fine_26 hf
  · refine g_ldc Γ (pc := 8) dX8_fine_8 kK_X8_78 ?_
    exact rI ret dX8_fine_10 hf
def f_X8_feed_K18_91 (m1 : Mem) : Option (Int32 × Mem) :=
  some ((m1 0 14), m1)
def f_X8_feed_J47 (x4_2 : Int32) (m3 : Mem) (s4 : Int32) : Option ((Int32 × Mem) ⊕ Mem) :=
  bn1 (rmM x4_2 4) fun v5 =>
  bn1 (stM m3 13 96 (m3 0 14) ((s4 >>> ((24 - (8 * v5)) &&& 31)) &&& 255)) fun m6 =>
  nm (mset m6 0 14 ((m6 0 14) + 1)) fun m7 =>
  some (.inl (x4_2 + 1, m7))
def f_X8_feed_L18 (a0 : Int32) (a1 : Int32) (a2 : Int32) (x4_2 : Int32) (m3 : Mem) : Option ((Int32 × Mem) ⊕ Mem) :=
  if 12 ≤ x4_2 then
    some (.inr m3)
  else
    if 4 ≤ x4_2 then
      if 8 ≤ x4_2 then
        f_X8_feed_J47 x4_2 m3 a2
      else
        f_X8_feed_J47 x4_2 m3 a1
    else
      f_X8_feed_J47 x4_2 m3 a0
def f_X8_feed (a0 : Int32) (a1 : Int32) (a2 : Int32) (μ : Mem) : Option (Int32 × Mem) :=
  if ((μ 0 14) + 12) ≤ 96 then
    bn1 (lpF (fun v => f_X8_feed_L18 a0 a1 a2 v.1 v.2) 4000 (0, μ)) (fun x => f_X8_feed_K18_91 x)
  else
    some ((-1000000003), μ)
set_option maxRecDepth 100000 in
set_option maxHeartbeats 4000000 in
theorem c_X8_feed {Y : SYS} (hM : IsM Y) {a0 : Int32} {a1 : Int32} {a2 : Int32} {μ : Mem} {x : Int32} {m : Mem} (hf : f_X8_feed a0 a1 a2 μ = some (x, m)) : KC Y yX8_feed cX8_feed 6 (some .int) 0 [.ref (sq Y 0), .int a0, .int a1, .int a2] μ (some (.int x)) m := by
  refine KC.I RX8 [(0, .ref (sq Y 0)), (1, .int a0), (2, .int a1), (3, .int a2)] (by decide) rfl (Nat.le_of_ble_eq_true rfl) rfl (fun G Γ ret => ?_)
  unfold f_X8_feed at hf
  refine g_aload_n Γ (pc := 0) 0 dX8_feed_0 rfl rfl ?_
  refine g_get Γ (pc := 1) (v := .int (μ 0 14)) dX8_feed_1 (M_obj hM) fr_X8_217 rfl ?_
  refine g_bipush Γ (pc := 4) (v := 12) dX8_feed_4 rfl ?_
  refine g_iadd Γ (pc := 6) dX8_feed_6 ?_
  refine g_bipush Γ (pc := 7) (v := 96) dX8_feed_7 rfl ?_
  refine g_icmp_le Γ (pc := 9) (tgt := 15) dX8_feed_9 rfl hf (fun hf => ?_) (fun hf => ?_)
  · refine g_iconst Γ (pc := 15) (v := 0) dX8_feed_15 rfl ?_
    refine g_istore Γ (pc := 16) (lv' := [(4, .int 0), (0, .ref (sq Y 0)), (1, .int a0), (2, .int a1), (3, .int a2)]) dX8_feed_16 (by decide) rfl ?_
    have K_18_91 : ∀ (m1 : Mem), f_X8_feed_K18_91 m1 = some (x, m) → G 91 [(0, .ref (sq Y 0))] [] m1 := by
      intro m1 hf
      unfold f_X8_feed_K18_91 at hf
      refine g_aload_n Γ (pc := 91) 0 dX8_feed_91 rfl rfl ?_
      refine g_get Γ (pc := 92) (v := .int (m1 0 14)) dX8_feed_92 (M_obj hM) fr_X8_217 rfl ?_
      exact rI ret dX8_feed_95 hf
    refine g_sub Γ [1, 2, 3, 4, 0] rfl ?_
    refine lpF_s (P := fun (v : Int32 × Mem) => G 18 [(0, .ref (sq Y 0)), (1, .int a0), (2, .int a1), (3, .int a2), (4, .int v.1)] [] v.2) hf (fun v z1 hf kI1 kX1 => ?_)
    obtain ⟨x4_2, m3⟩ := v
    replace hf : f_X8_feed_L18 a0 a1 a2 x4_2 m3 = some z1 := hf
    show G 18 [(0, .ref (sq Y 0)), (1, .int a0), (2, .int a1), (3, .int a2), (4, .int x4_2)] [] m3
    unfold f_X8_feed_L18 at hf
    refine g_iload Γ (pc := 18) 4 dX8_feed_18 rfl ?_
    refine g_bipush Γ (pc := 20) (v := 12) dX8_feed_20 rfl ?_
    refine g_icmp_ge Γ (pc := 22) (tgt := 91) dX8_feed_22 rfl hf (fun hf => ?_) (fun hf => ?_)
    · refine g_sub Γ [0] rfl ?_
      exact K_18_91 m3 (kX1 m3 (Option.some.inj hf).symm)
    · refine g_iload Γ (pc := 25) 4 dX8_feed_25 rfl ?_
      refine g_iconst Γ (pc := 27) (v := 4) dX8_feed_27 rfl ?_
      have J_47 : ∀ (s4 : Int32), f_X8_feed_J47 x4_2 m3 s4 = some z1 → G 47 [(0, .ref (sq Y 0)), (1, .int a0), (2, .int a1), (3, .int a2), (4, .int x4_2)] [.int s4] m3 := by
        intro s4 hf
        unfold f_X8_feed_J47 at hf
        refine g_istore Γ (pc := 47) (lv' := [(5, .int s4), (0, .ref (sq Y 0)), (1, .int a0), (2, .int a1), (3, .int a2), (4, .int x4_2)]) dX8_feed_47 (by decide) rfl ?_
        refine g_aload_n Γ (pc := 49) 1 dX8_feed_49 rfl rfl ?_
        refine g_get Γ (pc := 50) (v := .ref (sq Y 13)) dX8_feed_50 (M_obj hM) fr_X8_46 rfl ?_
        refine g_aload_n Γ (pc := 53) 1 dX8_feed_53 rfl rfl ?_
        refine g_get Γ (pc := 54) (v := .int (m3 0 14)) dX8_feed_54 (M_obj hM) fr_X8_217 rfl ?_
        refine g_iload Γ (pc := 57) 0 dX8_feed_57 rfl ?_
        refine g_bipush Γ (pc := 59) (v := 24) dX8_feed_59 rfl ?_
        refine g_bipush Γ (pc := 61) (v := 8) dX8_feed_61 rfl ?_
        refine g_iload Γ (pc := 63) 5 dX8_feed_63 rfl ?_
        refine g_iconst Γ (pc := 65) (v := 4) dX8_feed_65 rfl ?_
        refine g_irem Γ (pc := 66) dX8_feed_66 hf (fun v5 hf => ?_)
        refine g_imul Γ (pc := 67) dX8_feed_67 ?_
        refine g_isub Γ (pc := 68) dX8_feed_68 ?_
        refine g_ishr Γ (pc := 69) dX8_feed_69 ?_
        refine g_sipush Γ (pc := 70) (v := 255) dX8_feed_70 rfl ?_
        refine g_iand Γ (pc := 73) dX8_feed_73 ?_
        refine g_iast Γ (pc := 74) dX8_feed_74 (M_13 hM) hf (fun m6 hf => ?_)
        refine g_aload_n Γ (pc := 75) 1 dX8_feed_75 rfl rfl ?_
        refine g_dup Γ (pc := 76) dX8_feed_76 rfl ?_
        refine g_get Γ (pc := 77) (v := .int (m6 0 14)) dX8_feed_77 (M_obj hM) fr_X8_217 rfl ?_
        refine g_iconst Γ (pc := 80) (v := 1) dX8_feed_80 rfl ?_
        refine g_iadd Γ (pc := 81) dX8_feed_81 ?_
        refine g_put Γ (pc := 82) dX8_feed_82 (M_obj hM) fw_X8_217 (Nat.le_of_ble_eq_true rfl) rfl ?_
        refine g_nmm hf (fun m7 hf => ?_)
        refine g_iinc Γ (pc := 85) (v := x4_2 + 1) (lv' := [(4, .int (x4_2 + 1)), (5, .int s4), (0, .ref (sq Y 0)), (1, .int a0), (2, .int a1), (3, .int a2)]) 5 dX8_feed_85 rfl rfl (by decide) rfl ?_
        refine g_goto Γ (pc := 88) (tgt := 18) dX8_feed_88 rfl ?_
        refine g_sub Γ [2, 3, 4, 5, 0] rfl ?_
        exact kI1 (x4_2 + 1, m7) (Option.some.inj hf).symm
      refine g_icmp_ge Γ (pc := 28) (tgt := 35) dX8_feed_28 rfl hf (fun hf => ?_) (fun hf => ?_)
      · refine g_iload Γ (pc := 35) 4 dX8_feed_35 rfl ?_
        refine g_bipush Γ (pc := 37) (v := 8) dX8_feed_37 rfl ?_
        refine g_icmp_ge Γ (pc := 39) (tgt := 46) dX8_feed_39 rfl hf (fun hf => ?_) (fun hf => ?_)
        · refine g_iload_n Γ (pc := 46) 3 dX8_feed_46 rfl rfl ?_
          refine g_sub Γ [0, 1, 2, 3, 4] rfl ?_
          exact J_47 a2 hf
        · refine g_iload_n Γ (pc := 42) 2 dX8_feed_42 rfl rfl ?_
          refine g_goto Γ (pc := 43) (tgt := 47) dX8_feed_43 rfl ?_
          refine g_sub Γ [0, 1, 2, 3, 4] rfl ?_
          exact J_47 a1 hf
      · refine g_iload_n Γ (pc := 31) 1 dX8_feed_31 rfl rfl ?_
        refine g_goto Γ (pc := 32) (tgt := 47) dX8_feed_32 rfl ?_
        refine g_sub Γ [0, 1, 2, 3, 4] rfl ?_
        exact J_47 a0 hf
  · refine g_ldc Γ (pc := 12) dX8_feed_12 kK_X8_79 ?_
    exact rI ret dX8_feed_14 hf
def f_X8_trim (a0 : Int32) (μ : Mem) : Option (Int32 × Mem) :=
  bn1 (f_X8_isIn a0.toInt64 0 ((μ 0 14).toInt64)) fun v1 =>
  if v1 = 0 then
    some ((-1000000001), μ)
  else
    nm (mset μ 0 14 a0) fun m2 =>
    some (a0, m2)
set_option maxRecDepth 100000 in
set_option maxHeartbeats 4000000 in
theorem c_X8_trim {Y : SYS} (hM : IsM Y) {a0 : Int32} {μ : Mem} {x : Int32} {m : Mem} (hf : f_X8_trim a0 μ = some (x, m)) : KC Y yX8_trim cX8_trim 2 (some .int) 1 [.ref (sq Y 0), .int a0] μ (some (.int x)) m := by
  refine KC.I RX8 [(0, .ref (sq Y 0)), (1, .int a0)] (by decide) rfl (Nat.le_of_ble_eq_true rfl) rfl (fun G Γ ret => ?_)
  unfold f_X8_trim at hf
  refine g_iload_n Γ (pc := 0) 1 dX8_trim_0 rfl rfl ?_
  refine g_i2l Γ (pc := 1) dX8_trim_1 ?_
  refine g_lconst Γ (pc := 2) (v := 0) dX8_trim_2 rfl ?_
  refine g_aload_n Γ (pc := 3) 0 dX8_trim_3 rfl rfl ?_
  refine g_get Γ (pc := 4) (v := .int (μ 0 14)) dX8_trim_4 (M_obj hM) fr_X8_217 rfl ?_
  refine g_i2l Γ (pc := 7) dX8_trim_7 ?_
  obtain ⟨v1, h1, hf⟩ := bn1_i hf
  refine g_callSI Γ (pc := 8) (as := [.long a0.toInt64, .long 0, .long ((μ 0 14).toInt64)]) (st := []) dX8_trim_8 (c_X8_isIn h1) mi_X8_isIn ms_X8_isIn kM_X8_65 rfl ⟨Nat.le_of_ble_eq_true rfl, Nat.le_of_ble_eq_true rfl⟩ rfl (Nat.le_of_ble_eq_true rfl) ?_
  refine g_if_ne Γ (pc := 11) (tgt := 17) dX8_trim_11 rfl hf (fun hf => ?_) (fun hf => ?_)
  · refine g_aload_n Γ (pc := 17) 0 dX8_trim_17 rfl rfl ?_
    refine g_iload_n Γ (pc := 18) 1 dX8_trim_18 rfl rfl ?_
    refine g_put Γ (pc := 19) dX8_trim_19 (M_obj hM) fw_X8_217 (Nat.le_of_ble_eq_true rfl) rfl ?_
    refine g_nmm hf (fun m2 hf => ?_)
    refine g_iload_n Γ (pc := 22) 1 dX8_trim_22 rfl rfl ?_
    exact rI ret dX8_trim_23 hf
  · refine g_ldc Γ (pc := 14) dX8_trim_14 kK_X8_78 ?_
    exact rI ret dX8_trim_16 hf
def f_X8_isLetter (a0 : Int32) (μ : Mem) : Option (Int32) :=
  if (μ 0 14) ≤ a0 then
    some 0
  else
    bn1 (ldM (μ 13) 96 a0) fun v1 =>
    bn1 (f_X8_isIn v1.toInt64 97 122) fun v2 =>
    if v2 = 0 then
      some 0
    else
      some 1
set_option maxRecDepth 100000 in
set_option maxHeartbeats 4000000 in
theorem c_X8_isLetter {Y : SYS} (hM : IsM Y) {a0 : Int32} {μ : Mem} {x : Int32} (hf : f_X8_isLetter a0 μ = some x) : KC Y yX8_isLetter cX8_isLetter 2 (some .boolean) 1 [.ref (sq Y 0), .int a0] μ (some (.int x)) μ := by
  refine KC.Z RX8 [(0, .ref (sq Y 0)), (1, .int a0)] (by decide) rfl (Nat.le_of_ble_eq_true rfl) rfl (fun G Γ ret => ?_)
  unfold f_X8_isLetter at hf
  refine g_iload_n Γ (pc := 0) 1 dX8_isLetter_0 rfl rfl ?_
  refine g_aload_n Γ (pc := 1) 0 dX8_isLetter_1 rfl rfl ?_
  refine g_get Γ (pc := 2) (v := .int (μ 0 14)) dX8_isLetter_2 (M_obj hM) fr_X8_217 rfl ?_
  refine g_icmp_ge Γ (pc := 5) (tgt := 31) dX8_isLetter_5 rfl hf (fun hf => ?_) (fun hf => ?_)
  · refine g_iconst Γ (pc := 31) (v := 0) dX8_isLetter_31 rfl ?_
    exact rZkr ret dX8_isLetter_32 (Or.inl rfl) hf
  · refine g_aload_n Γ (pc := 8) 0 dX8_isLetter_8 rfl rfl ?_
    refine g_get Γ (pc := 9) (v := .ref (sq Y 13)) dX8_isLetter_9 (M_obj hM) fr_X8_46 rfl ?_
    refine g_iload_n Γ (pc := 12) 1 dX8_isLetter_12 rfl rfl ?_
    refine g_iald Γ (pc := 13) dX8_isLetter_13 (M_13 hM) hf (fun v1 hf => ?_)
    refine g_i2l Γ (pc := 14) dX8_isLetter_14 ?_
    refine g_ldc2 Γ (pc := 15) dX8_isLetter_15 kL_X8_221 ?_
    refine g_ldc2 Γ (pc := 18) dX8_isLetter_18 kL_X8_223 ?_
    obtain ⟨v2, h1, hf⟩ := bn1_i hf
    refine g_callSI Γ (pc := 21) (as := [.long v1.toInt64, .long 97, .long 122]) (st := []) dX8_isLetter_21 (c_X8_isIn h1) mi_X8_isIn ms_X8_isIn kM_X8_65 rfl ⟨Nat.le_of_ble_eq_true rfl, Nat.le_of_ble_eq_true rfl⟩ rfl (Nat.le_of_ble_eq_true rfl) ?_
    refine g_if_eq Γ (pc := 24) (tgt := 31) dX8_isLetter_24 rfl hf (fun hf => ?_) (fun hf => ?_)
    · refine g_iconst Γ (pc := 31) (v := 0) dX8_isLetter_31 rfl ?_
      exact rZkr ret dX8_isLetter_32 (Or.inl rfl) hf
    · refine g_iconst Γ (pc := 27) (v := 1) dX8_isLetter_27 rfl ?_
      refine g_goto Γ (pc := 28) (tgt := 32) dX8_isLetter_28 rfl ?_
      exact rZkr ret dX8_isLetter_32 (Or.inr rfl) hf
def f_X8_isDigit (a0 : Int32) (μ : Mem) : Option (Int32) :=
  if (μ 0 14) ≤ a0 then
    some 0
  else
    bn1 (ldM (μ 13) 96 a0) fun v1 =>
    bn1 (f_X8_isIn v1.toInt64 48 57) fun v2 =>
    if v2 = 0 then
      some 0
    else
      some 1
set_option maxRecDepth 100000 in
set_option maxHeartbeats 4000000 in
theorem c_X8_isDigit {Y : SYS} (hM : IsM Y) {a0 : Int32} {μ : Mem} {x : Int32} (hf : f_X8_isDigit a0 μ = some x) : KC Y yX8_isDigit cX8_isDigit 2 (some .boolean) 1 [.ref (sq Y 0), .int a0] μ (some (.int x)) μ := by
  refine KC.Z RX8 [(0, .ref (sq Y 0)), (1, .int a0)] (by decide) rfl (Nat.le_of_ble_eq_true rfl) rfl (fun G Γ ret => ?_)
  unfold f_X8_isDigit at hf
  refine g_iload_n Γ (pc := 0) 1 dX8_isDigit_0 rfl rfl ?_
  refine g_aload_n Γ (pc := 1) 0 dX8_isDigit_1 rfl rfl ?_
  refine g_get Γ (pc := 2) (v := .int (μ 0 14)) dX8_isDigit_2 (M_obj hM) fr_X8_217 rfl ?_
  refine g_icmp_ge Γ (pc := 5) (tgt := 31) dX8_isDigit_5 rfl hf (fun hf => ?_) (fun hf => ?_)
  · refine g_iconst Γ (pc := 31) (v := 0) dX8_isDigit_31 rfl ?_
    exact rZkr ret dX8_isDigit_32 (Or.inl rfl) hf
  · refine g_aload_n Γ (pc := 8) 0 dX8_isDigit_8 rfl rfl ?_
    refine g_get Γ (pc := 9) (v := .ref (sq Y 13)) dX8_isDigit_9 (M_obj hM) fr_X8_46 rfl ?_
    refine g_iload_n Γ (pc := 12) 1 dX8_isDigit_12 rfl rfl ?_
    refine g_iald Γ (pc := 13) dX8_isDigit_13 (M_13 hM) hf (fun v1 hf => ?_)
    refine g_i2l Γ (pc := 14) dX8_isDigit_14 ?_
    refine g_ldc2 Γ (pc := 15) dX8_isDigit_15 kL_X8_225 ?_
    refine g_ldc2 Γ (pc := 18) dX8_isDigit_18 kL_X8_227 ?_
    obtain ⟨v2, h1, hf⟩ := bn1_i hf
    refine g_callSI Γ (pc := 21) (as := [.long v1.toInt64, .long 48, .long 57]) (st := []) dX8_isDigit_21 (c_X8_isIn h1) mi_X8_isIn ms_X8_isIn kM_X8_65 rfl ⟨Nat.le_of_ble_eq_true rfl, Nat.le_of_ble_eq_true rfl⟩ rfl (Nat.le_of_ble_eq_true rfl) ?_
    refine g_if_eq Γ (pc := 24) (tgt := 31) dX8_isDigit_24 rfl hf (fun hf => ?_) (fun hf => ?_)
    · refine g_iconst Γ (pc := 31) (v := 0) dX8_isDigit_31 rfl ?_
      exact rZkr ret dX8_isDigit_32 (Or.inl rfl) hf
    · refine g_iconst Γ (pc := 27) (v := 1) dX8_isDigit_27 rfl ?_
      refine g_goto Γ (pc := 28) (tgt := 32) dX8_isDigit_28 rfl ?_
      exact rZkr ret dX8_isDigit_32 (Or.inr rfl) hf
def f_X8_nextToken_K214_282 (s3 : Int32) (m12 : Mem) : Option (Mem) :=
  if s3 = 0 then
    if ((m12 0 16) - (m12 0 15)) ≤ 4 then
      nm (mset m12 0 17 2) fun m14 =>
      some m14
    else
      nm (mset m12 0 17 4) fun m15 =>
      some m15
  else
    nm (mset m12 0 17 4) fun m13 =>
    some m13
def f_X8_nextToken_J266 (m16 : Mem) (s18 : Int32) : Option (Mem ⊕ Mem) :=
  nm (mset m16 0 18 s18) fun m19 =>
  nm (mset m19 0 16 ((m19 0 16) + 1)) fun m20 =>
  some (.inl m20)
def f_X8_nextToken_L214 (m16 : Mem) : Option (Mem ⊕ Mem) :=
  bn1 (f_X8_isDigit (m16 0 16) m16) fun v17 =>
  if v17 = 0 then
    some (.inr m16)
  else
    if 4 ≤ ((m16 0 16) - (m16 0 15)) then
      f_X8_nextToken_J266 m16 (m16 0 18)
    else
      bn1 (ldM (m16 13) 96 (m16 0 16)) fun v21 =>
      f_X8_nextToken_J266 m16 (((10 * (m16 0 18)) + v21) - 48)
def f_X8_nextToken_J162 (m22 : Mem) (s23 : Int32) : Option (Mem) :=
  nm (mset m22 0 17 s23) fun m24 =>
  if ((m24 0 16) - (m24 0 15)) = 1 then
    bn1 (ldM (m24 13) 96 (m24 0 15)) fun v26 =>
    nm (mset m24 0 19 v26) fun m27 =>
    some m27
  else
    nm (mset m24 0 19 0) fun m25 =>
    some m25
def f_X8_nextToken_K128_152 (s3 : Int32) (m22 : Mem) : Option (Mem) :=
  if s3 = 0 then
    f_X8_nextToken_J162 m22 1
  else
    f_X8_nextToken_J162 m22 4
def f_X8_nextToken_L128 (m28 : Mem) : Option (Mem ⊕ Mem) :=
  bn1 (f_X8_isLetter (m28 0 16) m28) fun v29 =>
  if v29 = 0 then
    some (.inr m28)
  else
    nm (mset m28 0 16 ((m28 0 16) + 1)) fun m30 =>
    some (.inl m30)
def f_X8_nextToken_J89 (m2 : Mem) (s3 : Int32) : Option (Mem) :=
  nm (mset m2 0 15 (m2 0 16)) fun m4 =>
  if (m4 0 15) = (m4 0 14) then
    nm (mset m4 0 17 0) fun m31 =>
    some m31
  else
    bn1 (f_X8_isLetter (m4 0 15) m4) fun v5 =>
    if v5 = 0 then
      bn1 (f_X8_isDigit (m4 0 15) m4) fun v6 =>
      if v6 = 0 then
        nm (mset m4 0 17 3) fun m7 =>
        bn1 (ldM (m7 13) 96 (m7 0 15)) fun v8 =>
        nm (mset m7 0 19 v8) fun m9 =>
        nm (mset m9 0 16 ((m9 0 16) + 1)) fun m10 =>
        some m10
      else
        nm (mset m4 0 18 0) fun m11 =>
        bn1 (lpF (fun v => f_X8_nextToken_L214 v) 4000 m11) (fun x => f_X8_nextToken_K214_282 s3 x)
    else
      bn1 (lpF (fun v => f_X8_nextToken_L128 v) 4000 m4) (fun x => f_X8_nextToken_K128_152 s3 x)
def f_X8_nextToken_J88 (m2 : Mem) : Option (Mem) :=
  f_X8_nextToken_J89 m2 0
def f_X8_nextToken_K34_72 (μ : Mem) (s1 : Int32) (m2 : Mem) : Option (Mem) :=
  if s1 = 0 then
    f_X8_nextToken_J88 m2
  else
    if (μ 0 16) = (m2 0 16) then
      f_X8_nextToken_J89 m2 1
    else
      f_X8_nextToken_J88 m2
def f_X8_nextToken_L34 (m32 : Mem) : Option (Mem ⊕ Mem) :=
  if (m32 0 14) ≤ (m32 0 16) then
    some (.inr m32)
  else
    bn1 (ldM (m32 13) 96 (m32 0 16)) fun v33 =>
    if v33 = 32 then
      nm (mset m32 0 16 ((m32 0 16) + 1)) fun m34 =>
      some (.inl m34)
    else
      some (.inr m32)
def f_X8_nextToken_J28 (μ : Mem) (s1 : Int32) : Option (Mem) :=
  bn1 (lpF (fun v => f_X8_nextToken_L34 v) 4000 μ) (fun x => f_X8_nextToken_K34_72 μ s1 x)
def f_X8_nextToken_J27 (μ : Mem) : Option (Mem) :=
  f_X8_nextToken_J28 μ 0
def f_X8_nextToken_J23 (μ : Mem) : Option (Mem) :=
  f_X8_nextToken_J28 μ 1
def f_X8_nextToken (μ : Mem) : Option (Mem) :=
  if (μ 0 16) ≤ 0 then
    f_X8_nextToken_J27 μ
  else
    if (μ 0 17) = 1 then
      f_X8_nextToken_J23 μ
    else
      if (μ 0 17) = 2 then
        f_X8_nextToken_J23 μ
      else
        f_X8_nextToken_J27 μ
set_option maxRecDepth 100000 in
set_option maxHeartbeats 4000000 in
theorem c_X8_nextToken {Y : SYS} (hM : IsM Y) {μ : Mem} {m : Mem} (hf : f_X8_nextToken μ = some m) : KC Y yX8_nextToken cX8_nextToken 3 none 2 [.ref (sq Y 0)] μ none m := by
  refine KC.V RX8 [(0, .ref (sq Y 0))] (by decide) rfl (Nat.le_of_ble_eq_true rfl) rfl (fun G Γ ret => ?_)
  unfold f_X8_nextToken at hf
  refine g_aload_n Γ (pc := 0) 0 dX8_nextToken_0 rfl rfl ?_
  refine g_get Γ (pc := 1) (v := .int (μ 0 16)) dX8_nextToken_1 (M_obj hM) fr_X8_229 rfl ?_
  have J_28 : ∀ (s1 : Int32), f_X8_nextToken_J28 μ s1 = some m → G 28 [(0, .ref (sq Y 0))] [.int s1] μ := by
    intro s1 hf
    unfold f_X8_nextToken_J28 at hf
    refine g_istore_n Γ (pc := 28) (lv' := [(1, .int s1), (0, .ref (sq Y 0))]) dX8_nextToken_28 rfl (by decide) rfl ?_
    refine g_aload_n Γ (pc := 29) 1 dX8_nextToken_29 rfl rfl ?_
    refine g_get Γ (pc := 30) (v := .int (μ 0 16)) dX8_nextToken_30 (M_obj hM) fr_X8_229 rfl ?_
    refine g_istore_n Γ (pc := 33) (lv' := [(2, .int (μ 0 16)), (1, .int s1), (0, .ref (sq Y 0))]) dX8_nextToken_33 rfl (by decide) rfl ?_
    have K_34_72 : ∀ (m2 : Mem), f_X8_nextToken_K34_72 μ s1 m2 = some m → G 72 [(0, .ref (sq Y 0)), (1, .int s1), (2, .int (μ 0 16))] [] m2 := by
      intro m2 hf
      unfold f_X8_nextToken_K34_72 at hf
      refine g_iload_n Γ (pc := 72) 1 dX8_nextToken_72 rfl rfl ?_
      have J_89 : ∀ (s3 : Int32), f_X8_nextToken_J89 m2 s3 = some m → G 89 [(0, .ref (sq Y 0))] [.int s3] m2 := by
        intro s3 hf
        unfold f_X8_nextToken_J89 at hf
        refine g_istore_n Γ (pc := 89) (lv' := [(1, .int s3), (0, .ref (sq Y 0))]) dX8_nextToken_89 rfl (by decide) rfl ?_
        refine g_aload_n Γ (pc := 90) 1 dX8_nextToken_90 rfl rfl ?_
        refine g_aload_n Γ (pc := 91) 1 dX8_nextToken_91 rfl rfl ?_
        refine g_get Γ (pc := 92) (v := .int (m2 0 16)) dX8_nextToken_92 (M_obj hM) fr_X8_229 rfl ?_
        refine g_put Γ (pc := 95) dX8_nextToken_95 (M_obj hM) fw_X8_235 (Nat.le_of_ble_eq_true rfl) rfl ?_
        refine g_nmm hf (fun m4 hf => ?_)
        refine g_aload_n Γ (pc := 98) 1 dX8_nextToken_98 rfl rfl ?_
        refine g_get Γ (pc := 99) (v := .int (m4 0 15)) dX8_nextToken_99 (M_obj hM) fr_X8_235 rfl ?_
        refine g_aload_n Γ (pc := 102) 1 dX8_nextToken_102 rfl rfl ?_
        refine g_get Γ (pc := 103) (v := .int (m4 0 14)) dX8_nextToken_103 (M_obj hM) fr_X8_217 rfl ?_
        refine g_icmp_ne Γ (pc := 106) (tgt := 117) dX8_nextToken_106 rfl hf (fun hf => ?_) (fun hf => ?_)
        · refine g_aload_n Γ (pc := 117) 1 dX8_nextToken_117 rfl rfl ?_
          refine g_aload_n Γ (pc := 118) 1 dX8_nextToken_118 rfl rfl ?_
          refine g_get Γ (pc := 119) (v := .int (m4 0 15)) dX8_nextToken_119 (M_obj hM) fr_X8_235 rfl ?_
          obtain ⟨v5, h1, hf⟩ := bn1_i hf
          refine g_callVI Γ (pc := 122) (as := [.int (m4 0 15)]) (st := []) dX8_nextToken_122 (c_X8_isLetter hM h1) (M_obj hM) rfl mi_X8_isLetter mv_X8_isLetter kM_X8_238 rfl ⟨Nat.le_of_ble_eq_true rfl, Nat.le_of_ble_eq_true rfl⟩ rfl (Nat.le_of_ble_eq_true rfl) ?_
          refine g_if_eq Γ (pc := 125) (tgt := 198) dX8_nextToken_125 rfl hf (fun hf => ?_) (fun hf => ?_)
          · refine g_aload_n Γ (pc := 198) 1 dX8_nextToken_198 rfl rfl ?_
            refine g_aload_n Γ (pc := 199) 1 dX8_nextToken_199 rfl rfl ?_
            refine g_get Γ (pc := 200) (v := .int (m4 0 15)) dX8_nextToken_200 (M_obj hM) fr_X8_235 rfl ?_
            obtain ⟨v6, h1, hf⟩ := bn1_i hf
            refine g_callVI Γ (pc := 203) (as := [.int (m4 0 15)]) (st := []) dX8_nextToken_203 (c_X8_isDigit hM h1) (M_obj hM) rfl mi_X8_isDigit mv_X8_isDigit kM_X8_244 rfl ⟨Nat.le_of_ble_eq_true rfl, Nat.le_of_ble_eq_true rfl⟩ rfl (Nat.le_of_ble_eq_true rfl) ?_
            refine g_if_eq Γ (pc := 206) (tgt := 311) dX8_nextToken_206 rfl hf (fun hf => ?_) (fun hf => ?_)
            · refine g_aload_n Γ (pc := 311) 1 dX8_nextToken_311 rfl rfl ?_
              refine g_iconst Γ (pc := 312) (v := 3) dX8_nextToken_312 rfl ?_
              refine g_put Γ (pc := 313) dX8_nextToken_313 (M_obj hM) fw_X8_232 (Nat.le_of_ble_eq_true rfl) rfl ?_
              refine g_nmm hf (fun m7 hf => ?_)
              refine g_aload_n Γ (pc := 316) 1 dX8_nextToken_316 rfl rfl ?_
              refine g_aload_n Γ (pc := 317) 1 dX8_nextToken_317 rfl rfl ?_
              refine g_get Γ (pc := 318) (v := .ref (sq Y 13)) dX8_nextToken_318 (M_obj hM) fr_X8_46 rfl ?_
              refine g_aload_n Γ (pc := 321) 1 dX8_nextToken_321 rfl rfl ?_
              refine g_get Γ (pc := 322) (v := .int (m7 0 15)) dX8_nextToken_322 (M_obj hM) fr_X8_235 rfl ?_
              refine g_iald Γ (pc := 325) dX8_nextToken_325 (M_13 hM) hf (fun v8 hf => ?_)
              refine g_put Γ (pc := 326) dX8_nextToken_326 (M_obj hM) fw_X8_241 (Nat.le_of_ble_eq_true rfl) rfl ?_
              refine g_nmm hf (fun m9 hf => ?_)
              refine g_aload_n Γ (pc := 329) 1 dX8_nextToken_329 rfl rfl ?_
              refine g_dup Γ (pc := 330) dX8_nextToken_330 rfl ?_
              refine g_get Γ (pc := 331) (v := .int (m9 0 16)) dX8_nextToken_331 (M_obj hM) fr_X8_229 rfl ?_
              refine g_iconst Γ (pc := 334) (v := 1) dX8_nextToken_334 rfl ?_
              refine g_iadd Γ (pc := 335) dX8_nextToken_335 ?_
              refine g_put Γ (pc := 336) dX8_nextToken_336 (M_obj hM) fw_X8_229 (Nat.le_of_ble_eq_true rfl) rfl ?_
              refine g_nmm hf (fun m10 hf => ?_)
              exact rV ret dX8_nextToken_339 hf
            · refine g_aload_n Γ (pc := 209) 1 dX8_nextToken_209 rfl rfl ?_
              refine g_iconst Γ (pc := 210) (v := 0) dX8_nextToken_210 rfl ?_
              refine g_put Γ (pc := 211) dX8_nextToken_211 (M_obj hM) fw_X8_247 (Nat.le_of_ble_eq_true rfl) rfl ?_
              refine g_nmm hf (fun m11 hf => ?_)
              have K_214_282 : ∀ (m12 : Mem), f_X8_nextToken_K214_282 s3 m12 = some m → G 282 [(0, .ref (sq Y 0)), (1, .int s3)] [] m12 := by
                intro m12 hf
                unfold f_X8_nextToken_K214_282 at hf
                refine g_aload_n Γ (pc := 282) 0 dX8_nextToken_282 rfl rfl ?_
                refine g_iload_n Γ (pc := 283) 1 dX8_nextToken_283 rfl rfl ?_
                refine g_if_ne Γ (pc := 284) (tgt := 300) dX8_nextToken_284 rfl hf (fun hf => ?_) (fun hf => ?_)
                · refine g_iconst Γ (pc := 300) (v := 4) dX8_nextToken_300 rfl ?_
                  refine g_goto Γ (pc := 301) (tgt := 305) dX8_nextToken_301 rfl ?_
                  refine g_put Γ (pc := 305) dX8_nextToken_305 (M_obj hM) fw_X8_232 (Nat.le_of_ble_eq_true rfl) rfl ?_
                  refine g_nmm hf (fun m13 hf => ?_)
                  refine g_goto Γ (pc := 308) (tgt := 339) dX8_nextToken_308 rfl ?_
                  exact rV ret dX8_nextToken_339 hf
                · refine g_aload_n Γ (pc := 287) 0 dX8_nextToken_287 rfl rfl ?_
                  refine g_get Γ (pc := 288) (v := .int (m12 0 16)) dX8_nextToken_288 (M_obj hM) fr_X8_229 rfl ?_
                  refine g_aload_n Γ (pc := 291) 0 dX8_nextToken_291 rfl rfl ?_
                  refine g_get Γ (pc := 292) (v := .int (m12 0 15)) dX8_nextToken_292 (M_obj hM) fr_X8_235 rfl ?_
                  refine g_isub Γ (pc := 295) dX8_nextToken_295 ?_
                  refine g_iconst Γ (pc := 296) (v := 4) dX8_nextToken_296 rfl ?_
                  refine g_icmp_le Γ (pc := 297) (tgt := 304) dX8_nextToken_297 rfl hf (fun hf => ?_) (fun hf => ?_)
                  · refine g_iconst Γ (pc := 304) (v := 2) dX8_nextToken_304 rfl ?_
                    refine g_put Γ (pc := 305) dX8_nextToken_305 (M_obj hM) fw_X8_232 (Nat.le_of_ble_eq_true rfl) rfl ?_
                    refine g_nmm hf (fun m14 hf => ?_)
                    refine g_goto Γ (pc := 308) (tgt := 339) dX8_nextToken_308 rfl ?_
                    exact rV ret dX8_nextToken_339 hf
                  · refine g_iconst Γ (pc := 300) (v := 4) dX8_nextToken_300 rfl ?_
                    refine g_goto Γ (pc := 301) (tgt := 305) dX8_nextToken_301 rfl ?_
                    refine g_put Γ (pc := 305) dX8_nextToken_305 (M_obj hM) fw_X8_232 (Nat.le_of_ble_eq_true rfl) rfl ?_
                    refine g_nmm hf (fun m15 hf => ?_)
                    refine g_goto Γ (pc := 308) (tgt := 339) dX8_nextToken_308 rfl ?_
                    exact rV ret dX8_nextToken_339 hf
              refine g_sub Γ [1, 0] rfl ?_
              refine lpF_s (P := fun (v : Mem) => G 214 [(0, .ref (sq Y 0)), (1, .int s3)] [] v) hf (fun v z1 hf kI1 kX1 => ?_)
              obtain ⟨m16, rfl⟩ : ∃ w, w = v := ⟨v, rfl⟩
              replace hf : f_X8_nextToken_L214 m16 = some z1 := hf
              show G 214 [(0, .ref (sq Y 0)), (1, .int s3)] [] m16
              unfold f_X8_nextToken_L214 at hf
              refine g_aload_n Γ (pc := 214) 0 dX8_nextToken_214 rfl rfl ?_
              refine g_aload_n Γ (pc := 215) 0 dX8_nextToken_215 rfl rfl ?_
              refine g_get Γ (pc := 216) (v := .int (m16 0 16)) dX8_nextToken_216 (M_obj hM) fr_X8_229 rfl ?_
              obtain ⟨v17, h1, hf⟩ := bn1_i hf
              refine g_callVI Γ (pc := 219) (as := [.int (m16 0 16)]) (st := []) dX8_nextToken_219 (c_X8_isDigit hM h1) (M_obj hM) rfl mi_X8_isDigit mv_X8_isDigit kM_X8_244 rfl ⟨Nat.le_of_ble_eq_true rfl, Nat.le_of_ble_eq_true rfl⟩ rfl (Nat.le_of_ble_eq_true rfl) ?_
              refine g_if_eq Γ (pc := 222) (tgt := 282) dX8_nextToken_222 rfl hf (fun hf => ?_) (fun hf => ?_)
              · refine g_sub Γ [0, 1] rfl ?_
                exact K_214_282 m16 (kX1 m16 (Option.some.inj hf).symm)
              · refine g_aload_n Γ (pc := 225) 0 dX8_nextToken_225 rfl rfl ?_
                refine g_aload_n Γ (pc := 226) 0 dX8_nextToken_226 rfl rfl ?_
                refine g_get Γ (pc := 227) (v := .int (m16 0 16)) dX8_nextToken_227 (M_obj hM) fr_X8_229 rfl ?_
                refine g_aload_n Γ (pc := 230) 0 dX8_nextToken_230 rfl rfl ?_
                refine g_get Γ (pc := 231) (v := .int (m16 0 15)) dX8_nextToken_231 (M_obj hM) fr_X8_235 rfl ?_
                refine g_isub Γ (pc := 234) dX8_nextToken_234 ?_
                refine g_iconst Γ (pc := 235) (v := 4) dX8_nextToken_235 rfl ?_
                have J_266 : ∀ (s18 : Int32), f_X8_nextToken_J266 m16 s18 = some z1 → G 266 [(0, .ref (sq Y 0)), (1, .int s3)] [.int s18, .ref (sq Y 0)] m16 := by
                  intro s18 hf
                  unfold f_X8_nextToken_J266 at hf
                  refine g_put Γ (pc := 266) dX8_nextToken_266 (M_obj hM) fw_X8_247 (Nat.le_of_ble_eq_true rfl) rfl ?_
                  refine g_nmm hf (fun m19 hf => ?_)
                  refine g_aload_n Γ (pc := 269) 0 dX8_nextToken_269 rfl rfl ?_
                  refine g_dup Γ (pc := 270) dX8_nextToken_270 rfl ?_
                  refine g_get Γ (pc := 271) (v := .int (m19 0 16)) dX8_nextToken_271 (M_obj hM) fr_X8_229 rfl ?_
                  refine g_iconst Γ (pc := 274) (v := 1) dX8_nextToken_274 rfl ?_
                  refine g_iadd Γ (pc := 275) dX8_nextToken_275 ?_
                  refine g_put Γ (pc := 276) dX8_nextToken_276 (M_obj hM) fw_X8_229 (Nat.le_of_ble_eq_true rfl) rfl ?_
                  refine g_nmm hf (fun m20 hf => ?_)
                  refine g_goto Γ (pc := 279) (tgt := 214) dX8_nextToken_279 rfl ?_
                  refine g_sub Γ [0, 1] rfl ?_
                  exact kI1 m20 (Option.some.inj hf).symm
                refine g_icmp_ge Γ (pc := 236) (tgt := 262) dX8_nextToken_236 rfl hf (fun hf => ?_) (fun hf => ?_)
                · refine g_aload_n Γ (pc := 262) 0 dX8_nextToken_262 rfl rfl ?_
                  refine g_get Γ (pc := 263) (v := .int (m16 0 18)) dX8_nextToken_263 (M_obj hM) fr_X8_247 rfl ?_
                  refine g_sub Γ [0, 1] rfl ?_
                  exact J_266 (m16 0 18) hf
                · refine g_bipush Γ (pc := 239) (v := 10) dX8_nextToken_239 rfl ?_
                  refine g_aload_n Γ (pc := 241) 0 dX8_nextToken_241 rfl rfl ?_
                  refine g_get Γ (pc := 242) (v := .int (m16 0 18)) dX8_nextToken_242 (M_obj hM) fr_X8_247 rfl ?_
                  refine g_imul Γ (pc := 245) dX8_nextToken_245 ?_
                  refine g_aload_n Γ (pc := 246) 0 dX8_nextToken_246 rfl rfl ?_
                  refine g_get Γ (pc := 247) (v := .ref (sq Y 13)) dX8_nextToken_247 (M_obj hM) fr_X8_46 rfl ?_
                  refine g_aload_n Γ (pc := 250) 0 dX8_nextToken_250 rfl rfl ?_
                  refine g_get Γ (pc := 251) (v := .int (m16 0 16)) dX8_nextToken_251 (M_obj hM) fr_X8_229 rfl ?_
                  refine g_iald Γ (pc := 254) dX8_nextToken_254 (M_13 hM) hf (fun v21 hf => ?_)
                  refine g_iadd Γ (pc := 255) dX8_nextToken_255 ?_
                  refine g_bipush Γ (pc := 256) (v := 48) dX8_nextToken_256 rfl ?_
                  refine g_isub Γ (pc := 258) dX8_nextToken_258 ?_
                  refine g_goto Γ (pc := 259) (tgt := 266) dX8_nextToken_259 rfl ?_
                  refine g_sub Γ [0, 1] rfl ?_
                  exact J_266 (((10 * (m16 0 18)) + v21) - 48) hf
          · have K_128_152 : ∀ (m22 : Mem), f_X8_nextToken_K128_152 s3 m22 = some m → G 152 [(0, .ref (sq Y 0)), (1, .int s3)] [] m22 := by
              intro m22 hf
              unfold f_X8_nextToken_K128_152 at hf
              refine g_aload_n Γ (pc := 152) 0 dX8_nextToken_152 rfl rfl ?_
              refine g_iload_n Γ (pc := 153) 1 dX8_nextToken_153 rfl rfl ?_
              have J_162 : ∀ (s23 : Int32), f_X8_nextToken_J162 m22 s23 = some m → G 162 [(0, .ref (sq Y 0))] [.int s23, .ref (sq Y 0)] m22 := by
                intro s23 hf
                unfold f_X8_nextToken_J162 at hf
                refine g_put Γ (pc := 162) dX8_nextToken_162 (M_obj hM) fw_X8_232 (Nat.le_of_ble_eq_true rfl) rfl ?_
                refine g_nmm hf (fun m24 hf => ?_)
                refine g_aload_n Γ (pc := 165) 0 dX8_nextToken_165 rfl rfl ?_
                refine g_aload_n Γ (pc := 166) 0 dX8_nextToken_166 rfl rfl ?_
                refine g_get Γ (pc := 167) (v := .int (m24 0 16)) dX8_nextToken_167 (M_obj hM) fr_X8_229 rfl ?_
                refine g_aload_n Γ (pc := 170) 0 dX8_nextToken_170 rfl rfl ?_
                refine g_get Γ (pc := 171) (v := .int (m24 0 15)) dX8_nextToken_171 (M_obj hM) fr_X8_235 rfl ?_
                refine g_isub Γ (pc := 174) dX8_nextToken_174 ?_
                refine g_iconst Γ (pc := 175) (v := 1) dX8_nextToken_175 rfl ?_
                refine g_icmp_ne Γ (pc := 176) (tgt := 191) dX8_nextToken_176 rfl hf (fun hf => ?_) (fun hf => ?_)
                · refine g_iconst Γ (pc := 191) (v := 0) dX8_nextToken_191 rfl ?_
                  refine g_put Γ (pc := 192) dX8_nextToken_192 (M_obj hM) fw_X8_241 (Nat.le_of_ble_eq_true rfl) rfl ?_
                  refine g_nmm hf (fun m25 hf => ?_)
                  refine g_goto Γ (pc := 195) (tgt := 339) dX8_nextToken_195 rfl ?_
                  exact rV ret dX8_nextToken_339 hf
                · refine g_aload_n Γ (pc := 179) 0 dX8_nextToken_179 rfl rfl ?_
                  refine g_get Γ (pc := 180) (v := .ref (sq Y 13)) dX8_nextToken_180 (M_obj hM) fr_X8_46 rfl ?_
                  refine g_aload_n Γ (pc := 183) 0 dX8_nextToken_183 rfl rfl ?_
                  refine g_get Γ (pc := 184) (v := .int (m24 0 15)) dX8_nextToken_184 (M_obj hM) fr_X8_235 rfl ?_
                  refine g_iald Γ (pc := 187) dX8_nextToken_187 (M_13 hM) hf (fun v26 hf => ?_)
                  refine g_goto Γ (pc := 188) (tgt := 192) dX8_nextToken_188 rfl ?_
                  refine g_put Γ (pc := 192) dX8_nextToken_192 (M_obj hM) fw_X8_241 (Nat.le_of_ble_eq_true rfl) rfl ?_
                  refine g_nmm hf (fun m27 hf => ?_)
                  refine g_goto Γ (pc := 195) (tgt := 339) dX8_nextToken_195 rfl ?_
                  exact rV ret dX8_nextToken_339 hf
              refine g_if_eq Γ (pc := 154) (tgt := 161) dX8_nextToken_154 rfl hf (fun hf => ?_) (fun hf => ?_)
              · refine g_iconst Γ (pc := 161) (v := 1) dX8_nextToken_161 rfl ?_
                refine g_sub Γ [0] rfl ?_
                exact J_162 1 hf
              · refine g_iconst Γ (pc := 157) (v := 4) dX8_nextToken_157 rfl ?_
                refine g_goto Γ (pc := 158) (tgt := 162) dX8_nextToken_158 rfl ?_
                refine g_sub Γ [0] rfl ?_
                exact J_162 4 hf
            refine g_sub Γ [1, 0] rfl ?_
            refine lpF_s (P := fun (v : Mem) => G 128 [(0, .ref (sq Y 0)), (1, .int s3)] [] v) hf (fun v z1 hf kI1 kX1 => ?_)
            obtain ⟨m28, rfl⟩ : ∃ w, w = v := ⟨v, rfl⟩
            replace hf : f_X8_nextToken_L128 m28 = some z1 := hf
            show G 128 [(0, .ref (sq Y 0)), (1, .int s3)] [] m28
            unfold f_X8_nextToken_L128 at hf
            refine g_aload_n Γ (pc := 128) 0 dX8_nextToken_128 rfl rfl ?_
            refine g_aload_n Γ (pc := 129) 0 dX8_nextToken_129 rfl rfl ?_
            refine g_get Γ (pc := 130) (v := .int (m28 0 16)) dX8_nextToken_130 (M_obj hM) fr_X8_229 rfl ?_
            obtain ⟨v29, h1, hf⟩ := bn1_i hf
            refine g_callVI Γ (pc := 133) (as := [.int (m28 0 16)]) (st := []) dX8_nextToken_133 (c_X8_isLetter hM h1) (M_obj hM) rfl mi_X8_isLetter mv_X8_isLetter kM_X8_238 rfl ⟨Nat.le_of_ble_eq_true rfl, Nat.le_of_ble_eq_true rfl⟩ rfl (Nat.le_of_ble_eq_true rfl) ?_
            refine g_if_eq Γ (pc := 136) (tgt := 152) dX8_nextToken_136 rfl hf (fun hf => ?_) (fun hf => ?_)
            · refine g_sub Γ [0, 1] rfl ?_
              exact K_128_152 m28 (kX1 m28 (Option.some.inj hf).symm)
            · refine g_aload_n Γ (pc := 139) 0 dX8_nextToken_139 rfl rfl ?_
              refine g_dup Γ (pc := 140) dX8_nextToken_140 rfl ?_
              refine g_get Γ (pc := 141) (v := .int (m28 0 16)) dX8_nextToken_141 (M_obj hM) fr_X8_229 rfl ?_
              refine g_iconst Γ (pc := 144) (v := 1) dX8_nextToken_144 rfl ?_
              refine g_iadd Γ (pc := 145) dX8_nextToken_145 ?_
              refine g_put Γ (pc := 146) dX8_nextToken_146 (M_obj hM) fw_X8_229 (Nat.le_of_ble_eq_true rfl) rfl ?_
              refine g_nmm hf (fun m30 hf => ?_)
              refine g_goto Γ (pc := 149) (tgt := 128) dX8_nextToken_149 rfl ?_
              refine g_sub Γ [0, 1] rfl ?_
              exact kI1 m30 (Option.some.inj hf).symm
        · refine g_aload_n Γ (pc := 109) 1 dX8_nextToken_109 rfl rfl ?_
          refine g_iconst Γ (pc := 110) (v := 0) dX8_nextToken_110 rfl ?_
          refine g_put Γ (pc := 111) dX8_nextToken_111 (M_obj hM) fw_X8_232 (Nat.le_of_ble_eq_true rfl) rfl ?_
          refine g_nmm hf (fun m31 hf => ?_)
          refine g_goto Γ (pc := 114) (tgt := 339) dX8_nextToken_114 rfl ?_
          exact rV ret dX8_nextToken_339 hf
      have J_88 : f_X8_nextToken_J88 m2 = some m → G 88 [(0, .ref (sq Y 0))] [] m2 := by
        intro hf
        unfold f_X8_nextToken_J88 at hf
        refine g_iconst Γ (pc := 88) (v := 0) dX8_nextToken_88 rfl ?_
        refine g_sub Γ [0] rfl ?_
        exact J_89 0 hf
      refine g_if_eq Γ (pc := 73) (tgt := 88) dX8_nextToken_73 rfl hf (fun hf => ?_) (fun hf => ?_)
      · refine g_sub Γ [0] rfl ?_
        exact J_88 hf
      · refine g_iload_n Γ (pc := 76) 2 dX8_nextToken_76 rfl rfl ?_
        refine g_aload_n Γ (pc := 77) 0 dX8_nextToken_77 rfl rfl ?_
        refine g_get Γ (pc := 78) (v := .int (m2 0 16)) dX8_nextToken_78 (M_obj hM) fr_X8_229 rfl ?_
        refine g_icmp_ne Γ (pc := 81) (tgt := 88) dX8_nextToken_81 rfl hf (fun hf => ?_) (fun hf => ?_)
        · refine g_sub Γ [0] rfl ?_
          exact J_88 hf
        · refine g_iconst Γ (pc := 84) (v := 1) dX8_nextToken_84 rfl ?_
          refine g_goto Γ (pc := 85) (tgt := 89) dX8_nextToken_85 rfl ?_
          refine g_sub Γ [0] rfl ?_
          exact J_89 1 hf
    refine g_sub Γ [2, 1, 0] rfl ?_
    refine lpF_s (P := fun (v : Mem) => G 34 [(0, .ref (sq Y 0)), (1, .int s1), (2, .int (μ 0 16))] [] v) hf (fun v z1 hf kI1 kX1 => ?_)
    obtain ⟨m32, rfl⟩ : ∃ w, w = v := ⟨v, rfl⟩
    replace hf : f_X8_nextToken_L34 m32 = some z1 := hf
    show G 34 [(0, .ref (sq Y 0)), (1, .int s1), (2, .int (μ 0 16))] [] m32
    unfold f_X8_nextToken_L34 at hf
    refine g_aload_n Γ (pc := 34) 0 dX8_nextToken_34 rfl rfl ?_
    refine g_get Γ (pc := 35) (v := .int (m32 0 16)) dX8_nextToken_35 (M_obj hM) fr_X8_229 rfl ?_
    refine g_aload_n Γ (pc := 38) 0 dX8_nextToken_38 rfl rfl ?_
    refine g_get Γ (pc := 39) (v := .int (m32 0 14)) dX8_nextToken_39 (M_obj hM) fr_X8_217 rfl ?_
    refine g_icmp_ge Γ (pc := 42) (tgt := 72) dX8_nextToken_42 rfl hf (fun hf => ?_) (fun hf => ?_)
    · refine g_sub Γ [0, 1, 2] rfl ?_
      exact K_34_72 m32 (kX1 m32 (Option.some.inj hf).symm)
    · refine g_aload_n Γ (pc := 45) 0 dX8_nextToken_45 rfl rfl ?_
      refine g_get Γ (pc := 46) (v := .ref (sq Y 13)) dX8_nextToken_46 (M_obj hM) fr_X8_46 rfl ?_
      refine g_aload_n Γ (pc := 49) 0 dX8_nextToken_49 rfl rfl ?_
      refine g_get Γ (pc := 50) (v := .int (m32 0 16)) dX8_nextToken_50 (M_obj hM) fr_X8_229 rfl ?_
      refine g_iald Γ (pc := 53) dX8_nextToken_53 (M_13 hM) hf (fun v33 hf => ?_)
      refine g_bipush Γ (pc := 54) (v := 32) dX8_nextToken_54 rfl ?_
      refine g_icmp_ne Γ (pc := 56) (tgt := 72) dX8_nextToken_56 rfl hf (fun hf => ?_) (fun hf => ?_)
      · refine g_sub Γ [0, 1, 2] rfl ?_
        exact K_34_72 m32 (kX1 m32 (Option.some.inj hf).symm)
      · refine g_aload_n Γ (pc := 59) 0 dX8_nextToken_59 rfl rfl ?_
        refine g_dup Γ (pc := 60) dX8_nextToken_60 rfl ?_
        refine g_get Γ (pc := 61) (v := .int (m32 0 16)) dX8_nextToken_61 (M_obj hM) fr_X8_229 rfl ?_
        refine g_iconst Γ (pc := 64) (v := 1) dX8_nextToken_64 rfl ?_
        refine g_iadd Γ (pc := 65) dX8_nextToken_65 ?_
        refine g_put Γ (pc := 66) dX8_nextToken_66 (M_obj hM) fw_X8_229 (Nat.le_of_ble_eq_true rfl) rfl ?_
        refine g_nmm hf (fun m34 hf => ?_)
        refine g_goto Γ (pc := 69) (tgt := 34) dX8_nextToken_69 rfl ?_
        refine g_sub Γ [0, 1, 2] rfl ?_
        exact kI1 m34 (Option.some.inj hf).symm
  have J_27 : f_X8_nextToken_J27 μ = some m → G 27 [(0, .ref (sq Y 0))] [] μ := by
    intro hf
    unfold f_X8_nextToken_J27 at hf
    refine g_iconst Γ (pc := 27) (v := 0) dX8_nextToken_27 rfl ?_
    refine g_sub Γ [0] rfl ?_
    exact J_28 0 hf
  refine g_if_le Γ (pc := 4) (tgt := 27) dX8_nextToken_4 rfl hf (fun hf => ?_) (fun hf => ?_)
  · refine g_sub Γ [0] rfl ?_
    exact J_27 hf
  · refine g_aload_n Γ (pc := 7) 0 dX8_nextToken_7 rfl rfl ?_
    refine g_get Γ (pc := 8) (v := .int (μ 0 17)) dX8_nextToken_8 (M_obj hM) fr_X8_232 rfl ?_
    refine g_iconst Γ (pc := 11) (v := 1) dX8_nextToken_11 rfl ?_
    have J_23 : f_X8_nextToken_J23 μ = some m → G 23 [(0, .ref (sq Y 0))] [] μ := by
      intro hf
      unfold f_X8_nextToken_J23 at hf
      refine g_iconst Γ (pc := 23) (v := 1) dX8_nextToken_23 rfl ?_
      refine g_goto Γ (pc := 24) (tgt := 28) dX8_nextToken_24 rfl ?_
      refine g_sub Γ [0] rfl ?_
      exact J_28 1 hf
    refine g_icmp_eq Γ (pc := 12) (tgt := 23) dX8_nextToken_12 rfl hf (fun hf => ?_) (fun hf => ?_)
    · refine g_sub Γ [0] rfl ?_
      exact J_23 hf
    · refine g_aload_n Γ (pc := 15) 0 dX8_nextToken_15 rfl rfl ?_
      refine g_get Γ (pc := 16) (v := .int (μ 0 17)) dX8_nextToken_16 (M_obj hM) fr_X8_232 rfl ?_
      refine g_iconst Γ (pc := 19) (v := 2) dX8_nextToken_19 rfl ?_
      refine g_icmp_ne Γ (pc := 20) (tgt := 27) dX8_nextToken_20 rfl hf (fun hf => ?_) (fun hf => ?_)
      · refine g_sub Γ [0] rfl ?_
        exact J_27 hf
      · refine g_sub Γ [0] rfl ?_
        exact J_23 hf
def f_X8_isWordAt_J10 (a0 : Int32) (a1 : Int32) (a2 : Int32) (a3 : Int32) (μ : Mem) (s1 : Int32) : Option (Int32) :=
  if (μ 0 17) = 1 then
    if ((μ 0 16) - (μ 0 15)) = s1 then
      bn1 (ldM (μ 13) 96 (μ 0 15)) fun v2 =>
      if v2 = a0 then
        bn1 (ldM (μ 13) 96 ((μ 0 15) + 1)) fun v3 =>
        if v3 = a1 then
          bn1 (ldM (μ 13) 96 ((μ 0 15) + 2)) fun v4 =>
          if v4 = a2 then
            if a3 = 0 then
              some 1
            else
              bn1 (ldM (μ 13) 96 ((μ 0 15) + 3)) fun v5 =>
              if v5 = a3 then
                some 1
              else
                some 0
          else
            some 0
        else
          some 0
      else
        some 0
    else
      some 0
  else
    some 0
def f_X8_isWordAt (a0 : Int32) (a1 : Int32) (a2 : Int32) (a3 : Int32) (μ : Mem) : Option (Int32) :=
  if a3 = 0 then
    f_X8_isWordAt_J10 a0 a1 a2 a3 μ 3
  else
    f_X8_isWordAt_J10 a0 a1 a2 a3 μ 4
set_option maxRecDepth 100000 in
set_option maxHeartbeats 4000000 in
theorem c_X8_isWordAt {Y : SYS} (hM : IsM Y) {a0 : Int32} {a1 : Int32} {a2 : Int32} {a3 : Int32} {μ : Mem} {x : Int32} (hf : f_X8_isWordAt a0 a1 a2 a3 μ = some x) : KC Y yX8_isWordAt cX8_isWordAt 6 (some .boolean) 0 [.ref (sq Y 0), .int a0, .int a1, .int a2, .int a3] μ (some (.int x)) μ := by
  refine KC.Z RX8 [(0, .ref (sq Y 0)), (1, .int a0), (2, .int a1), (3, .int a2), (4, .int a3)] (by decide) rfl (Nat.le_of_ble_eq_true rfl) rfl (fun G Γ ret => ?_)
  unfold f_X8_isWordAt at hf
  refine g_iload Γ (pc := 0) 4 dX8_isWordAt_0 rfl ?_
  have J_10 : ∀ (s1 : Int32), f_X8_isWordAt_J10 a0 a1 a2 a3 μ s1 = some x → G 10 [(0, .ref (sq Y 0)), (1, .int a0), (2, .int a1), (3, .int a2), (4, .int a3)] [.int s1] μ := by
    intro s1 hf
    unfold f_X8_isWordAt_J10 at hf
    refine g_istore Γ (pc := 10) (lv' := [(5, .int s1), (0, .ref (sq Y 0)), (1, .int a0), (2, .int a1), (3, .int a2), (4, .int a3)]) dX8_isWordAt_10 (by decide) rfl ?_
    refine g_aload_n Γ (pc := 12) 1 dX8_isWordAt_12 rfl rfl ?_
    refine g_get Γ (pc := 13) (v := .int (μ 0 17)) dX8_isWordAt_13 (M_obj hM) fr_X8_232 rfl ?_
    refine g_iconst Γ (pc := 16) (v := 1) dX8_isWordAt_16 rfl ?_
    refine g_icmp_ne Γ (pc := 17) (tgt := 102) dX8_isWordAt_17 rfl hf (fun hf => ?_) (fun hf => ?_)
    · refine g_iconst Γ (pc := 102) (v := 0) dX8_isWordAt_102 rfl ?_
      exact rZkr ret dX8_isWordAt_103 (Or.inl rfl) hf
    · refine g_aload_n Γ (pc := 20) 1 dX8_isWordAt_20 rfl rfl ?_
      refine g_get Γ (pc := 21) (v := .int (μ 0 16)) dX8_isWordAt_21 (M_obj hM) fr_X8_229 rfl ?_
      refine g_aload_n Γ (pc := 24) 1 dX8_isWordAt_24 rfl rfl ?_
      refine g_get Γ (pc := 25) (v := .int (μ 0 15)) dX8_isWordAt_25 (M_obj hM) fr_X8_235 rfl ?_
      refine g_isub Γ (pc := 28) dX8_isWordAt_28 ?_
      refine g_iload Γ (pc := 29) 0 dX8_isWordAt_29 rfl ?_
      refine g_icmp_ne Γ (pc := 31) (tgt := 102) dX8_isWordAt_31 rfl hf (fun hf => ?_) (fun hf => ?_)
      · refine g_iconst Γ (pc := 102) (v := 0) dX8_isWordAt_102 rfl ?_
        exact rZkr ret dX8_isWordAt_103 (Or.inl rfl) hf
      · refine g_aload_n Γ (pc := 34) 1 dX8_isWordAt_34 rfl rfl ?_
        refine g_get Γ (pc := 35) (v := .ref (sq Y 13)) dX8_isWordAt_35 (M_obj hM) fr_X8_46 rfl ?_
        refine g_aload_n Γ (pc := 38) 1 dX8_isWordAt_38 rfl rfl ?_
        refine g_get Γ (pc := 39) (v := .int (μ 0 15)) dX8_isWordAt_39 (M_obj hM) fr_X8_235 rfl ?_
        refine g_iald Γ (pc := 42) dX8_isWordAt_42 (M_13 hM) hf (fun v2 hf => ?_)
        refine g_iload_n Γ (pc := 43) 2 dX8_isWordAt_43 rfl rfl ?_
        refine g_icmp_ne Γ (pc := 44) (tgt := 102) dX8_isWordAt_44 rfl hf (fun hf => ?_) (fun hf => ?_)
        · refine g_iconst Γ (pc := 102) (v := 0) dX8_isWordAt_102 rfl ?_
          exact rZkr ret dX8_isWordAt_103 (Or.inl rfl) hf
        · refine g_aload_n Γ (pc := 47) 1 dX8_isWordAt_47 rfl rfl ?_
          refine g_get Γ (pc := 48) (v := .ref (sq Y 13)) dX8_isWordAt_48 (M_obj hM) fr_X8_46 rfl ?_
          refine g_aload_n Γ (pc := 51) 1 dX8_isWordAt_51 rfl rfl ?_
          refine g_get Γ (pc := 52) (v := .int (μ 0 15)) dX8_isWordAt_52 (M_obj hM) fr_X8_235 rfl ?_
          refine g_iconst Γ (pc := 55) (v := 1) dX8_isWordAt_55 rfl ?_
          refine g_iadd Γ (pc := 56) dX8_isWordAt_56 ?_
          refine g_iald Γ (pc := 57) dX8_isWordAt_57 (M_13 hM) hf (fun v3 hf => ?_)
          refine g_iload_n Γ (pc := 58) 3 dX8_isWordAt_58 rfl rfl ?_
          refine g_icmp_ne Γ (pc := 59) (tgt := 102) dX8_isWordAt_59 rfl hf (fun hf => ?_) (fun hf => ?_)
          · refine g_iconst Γ (pc := 102) (v := 0) dX8_isWordAt_102 rfl ?_
            exact rZkr ret dX8_isWordAt_103 (Or.inl rfl) hf
          · refine g_aload_n Γ (pc := 62) 1 dX8_isWordAt_62 rfl rfl ?_
            refine g_get Γ (pc := 63) (v := .ref (sq Y 13)) dX8_isWordAt_63 (M_obj hM) fr_X8_46 rfl ?_
            refine g_aload_n Γ (pc := 66) 1 dX8_isWordAt_66 rfl rfl ?_
            refine g_get Γ (pc := 67) (v := .int (μ 0 15)) dX8_isWordAt_67 (M_obj hM) fr_X8_235 rfl ?_
            refine g_iconst Γ (pc := 70) (v := 2) dX8_isWordAt_70 rfl ?_
            refine g_iadd Γ (pc := 71) dX8_isWordAt_71 ?_
            refine g_iald Γ (pc := 72) dX8_isWordAt_72 (M_13 hM) hf (fun v4 hf => ?_)
            refine g_iload_n Γ (pc := 73) 4 dX8_isWordAt_73 rfl rfl ?_
            refine g_icmp_ne Γ (pc := 74) (tgt := 102) dX8_isWordAt_74 rfl hf (fun hf => ?_) (fun hf => ?_)
            · refine g_iconst Γ (pc := 102) (v := 0) dX8_isWordAt_102 rfl ?_
              exact rZkr ret dX8_isWordAt_103 (Or.inl rfl) hf
            · refine g_iload Γ (pc := 77) 5 dX8_isWordAt_77 rfl ?_
              refine g_if_eq Γ (pc := 79) (tgt := 98) dX8_isWordAt_79 rfl hf (fun hf => ?_) (fun hf => ?_)
              · refine g_iconst Γ (pc := 98) (v := 1) dX8_isWordAt_98 rfl ?_
                refine g_goto Γ (pc := 99) (tgt := 103) dX8_isWordAt_99 rfl ?_
                exact rZkr ret dX8_isWordAt_103 (Or.inr rfl) hf
              · refine g_aload_n Γ (pc := 82) 1 dX8_isWordAt_82 rfl rfl ?_
                refine g_get Γ (pc := 83) (v := .ref (sq Y 13)) dX8_isWordAt_83 (M_obj hM) fr_X8_46 rfl ?_
                refine g_aload_n Γ (pc := 86) 1 dX8_isWordAt_86 rfl rfl ?_
                refine g_get Γ (pc := 87) (v := .int (μ 0 15)) dX8_isWordAt_87 (M_obj hM) fr_X8_235 rfl ?_
                refine g_iconst Γ (pc := 90) (v := 3) dX8_isWordAt_90 rfl ?_
                refine g_iadd Γ (pc := 91) dX8_isWordAt_91 ?_
                refine g_iald Γ (pc := 92) dX8_isWordAt_92 (M_13 hM) hf (fun v5 hf => ?_)
                refine g_iload Γ (pc := 93) 5 dX8_isWordAt_93 rfl ?_
                refine g_icmp_ne Γ (pc := 95) (tgt := 102) dX8_isWordAt_95 rfl hf (fun hf => ?_) (fun hf => ?_)
                · refine g_iconst Γ (pc := 102) (v := 0) dX8_isWordAt_102 rfl ?_
                  exact rZkr ret dX8_isWordAt_103 (Or.inl rfl) hf
                · refine g_iconst Γ (pc := 98) (v := 1) dX8_isWordAt_98 rfl ?_
                  refine g_goto Γ (pc := 99) (tgt := 103) dX8_isWordAt_99 rfl ?_
                  exact rZkr ret dX8_isWordAt_103 (Or.inr rfl) hf
  refine g_if_ne Γ (pc := 2) (tgt := 9) dX8_isWordAt_2 rfl hf (fun hf => ?_) (fun hf => ?_)
  · refine g_iconst Γ (pc := 9) (v := 4) dX8_isWordAt_9 rfl ?_
    refine g_sub Γ [0, 1, 2, 3, 4] rfl ?_
    exact J_10 4 hf
  · refine g_iconst Γ (pc := 5) (v := 3) dX8_isWordAt_5 rfl ?_
    refine g_goto Γ (pc := 6) (tgt := 10) dX8_isWordAt_6 rfl ?_
    refine g_sub Γ [0, 1, 2, 3, 4] rfl ?_
    exact J_10 3 hf
def f_X8_key (μ : Mem) : Option (Int32) :=
  bn1 (f_X8_isWordAt 100 117 101 115 μ) fun v1 =>
  if v1 = 0 then
    bn1 (f_X8_isWordAt 102 101 101 0 μ) fun v2 =>
    if v2 = 0 then
      bn1 (f_X8_isWordAt 102 105 110 101 μ) fun v3 =>
      if v3 = 0 then
        some (-1)
      else
        some 2
    else
      some 1
  else
    some 0
set_option maxRecDepth 100000 in
set_option maxHeartbeats 4000000 in
theorem c_X8_key {Y : SYS} (hM : IsM Y) {μ : Mem} {x : Int32} (hf : f_X8_key μ = some x) : KC Y yX8_key cX8_key 1 (some .int) 1 [.ref (sq Y 0)] μ (some (.int x)) μ := by
  refine KC.I RX8 [(0, .ref (sq Y 0))] (by decide) rfl (Nat.le_of_ble_eq_true rfl) rfl (fun G Γ ret => ?_)
  unfold f_X8_key at hf
  refine g_aload_n Γ (pc := 0) 0 dX8_key_0 rfl rfl ?_
  refine g_bipush Γ (pc := 1) (v := 100) dX8_key_1 rfl ?_
  refine g_bipush Γ (pc := 3) (v := 117) dX8_key_3 rfl ?_
  refine g_bipush Γ (pc := 5) (v := 101) dX8_key_5 rfl ?_
  refine g_bipush Γ (pc := 7) (v := 115) dX8_key_7 rfl ?_
  obtain ⟨v1, h1, hf⟩ := bn1_i hf
  refine g_callVI Γ (pc := 9) (as := [.int 100, .int 117, .int 101, .int 115]) (st := []) dX8_key_9 (c_X8_isWordAt hM h1) (M_obj hM) rfl mi_X8_isWordAt mv_X8_isWordAt kM_X8_250 rfl ⟨Nat.le_of_ble_eq_true rfl, Nat.le_of_ble_eq_true rfl⟩ rfl (Nat.le_of_ble_eq_true rfl) ?_
  refine g_if_eq Γ (pc := 12) (tgt := 17) dX8_key_12 rfl hf (fun hf => ?_) (fun hf => ?_)
  · refine g_aload_n Γ (pc := 17) 0 dX8_key_17 rfl rfl ?_
    refine g_bipush Γ (pc := 18) (v := 102) dX8_key_18 rfl ?_
    refine g_bipush Γ (pc := 20) (v := 101) dX8_key_20 rfl ?_
    refine g_bipush Γ (pc := 22) (v := 101) dX8_key_22 rfl ?_
    refine g_iconst Γ (pc := 24) (v := 0) dX8_key_24 rfl ?_
    obtain ⟨v2, h1, hf⟩ := bn1_i hf
    refine g_callVI Γ (pc := 25) (as := [.int 102, .int 101, .int 101, .int 0]) (st := []) dX8_key_25 (c_X8_isWordAt hM h1) (M_obj hM) rfl mi_X8_isWordAt mv_X8_isWordAt kM_X8_250 rfl ⟨Nat.le_of_ble_eq_true rfl, Nat.le_of_ble_eq_true rfl⟩ rfl (Nat.le_of_ble_eq_true rfl) ?_
    refine g_if_eq Γ (pc := 28) (tgt := 33) dX8_key_28 rfl hf (fun hf => ?_) (fun hf => ?_)
    · refine g_aload_n Γ (pc := 33) 0 dX8_key_33 rfl rfl ?_
      refine g_bipush Γ (pc := 34) (v := 102) dX8_key_34 rfl ?_
      refine g_bipush Γ (pc := 36) (v := 105) dX8_key_36 rfl ?_
      refine g_bipush Γ (pc := 38) (v := 110) dX8_key_38 rfl ?_
      refine g_bipush Γ (pc := 40) (v := 101) dX8_key_40 rfl ?_
      obtain ⟨v3, h1, hf⟩ := bn1_i hf
      refine g_callVI Γ (pc := 42) (as := [.int 102, .int 105, .int 110, .int 101]) (st := []) dX8_key_42 (c_X8_isWordAt hM h1) (M_obj hM) rfl mi_X8_isWordAt mv_X8_isWordAt kM_X8_250 rfl ⟨Nat.le_of_ble_eq_true rfl, Nat.le_of_ble_eq_true rfl⟩ rfl (Nat.le_of_ble_eq_true rfl) ?_
      refine g_if_eq Γ (pc := 45) (tgt := 52) dX8_key_45 rfl hf (fun hf => ?_) (fun hf => ?_)
      · refine g_iconst Γ (pc := 52) (v := (-1)) dX8_key_52 rfl ?_
        exact rIr ret dX8_key_53 hf
      · refine g_iconst Γ (pc := 48) (v := 2) dX8_key_48 rfl ?_
        refine g_goto Γ (pc := 49) (tgt := 53) dX8_key_49 rfl ?_
        exact rIr ret dX8_key_53 hf
    · refine g_iconst Γ (pc := 31) (v := 1) dX8_key_31 rfl ?_
      exact rIr ret dX8_key_32 hf
  · refine g_iconst Γ (pc := 15) (v := 0) dX8_key_15 rfl ?_
    exact rIr ret dX8_key_16 hf
def f_X8_step (a0 : Int32) (a1 : Int32) (μ : Mem) : Option (Mem) :=
  bn1 (stM μ 1 3059 ((μ 0 23) + (2 * (μ 0 22))) a0) fun m1 =>
  bn1 (stM m1 1 3059 (((m1 0 23) + (2 * (m1 0 22))) + 1) a1) fun m2 =>
  nm (mset m2 0 22 ((m2 0 22) + 1)) fun m3 =>
  some m3
set_option maxRecDepth 100000 in
set_option maxHeartbeats 4000000 in
theorem c_X8_step {Y : SYS} (hM : IsM Y) {a0 : Int32} {a1 : Int32} {μ : Mem} {m : Mem} (hf : f_X8_step a0 a1 μ = some m) : KC Y yX8_step cX8_step 3 none 0 [.ref (sq Y 0), .int a0, .int a1] μ none m := by
  refine KC.V RX8 [(0, .ref (sq Y 0)), (1, .int a0), (2, .int a1)] (by decide) rfl (Nat.le_of_ble_eq_true rfl) rfl (fun G Γ ret => ?_)
  unfold f_X8_step at hf
  refine g_aload_n Γ (pc := 0) 0 dX8_step_0 rfl rfl ?_
  refine g_get Γ (pc := 1) (v := .ref (sq Y 1)) dX8_step_1 (M_obj hM) fr_X8_7 rfl ?_
  refine g_aload_n Γ (pc := 4) 0 dX8_step_4 rfl rfl ?_
  refine g_get Γ (pc := 5) (v := .int (μ 0 23)) dX8_step_5 (M_obj hM) fr_X8_254 rfl ?_
  refine g_iconst Γ (pc := 8) (v := 2) dX8_step_8 rfl ?_
  refine g_aload_n Γ (pc := 9) 0 dX8_step_9 rfl rfl ?_
  refine g_get Γ (pc := 10) (v := .int (μ 0 22)) dX8_step_10 (M_obj hM) fr_X8_257 rfl ?_
  refine g_imul Γ (pc := 13) dX8_step_13 ?_
  refine g_iadd Γ (pc := 14) dX8_step_14 ?_
  refine g_iload_n Γ (pc := 15) 1 dX8_step_15 rfl rfl ?_
  refine g_iast Γ (pc := 16) dX8_step_16 (M_1 hM) hf (fun m1 hf => ?_)
  refine g_aload_n Γ (pc := 17) 0 dX8_step_17 rfl rfl ?_
  refine g_get Γ (pc := 18) (v := .ref (sq Y 1)) dX8_step_18 (M_obj hM) fr_X8_7 rfl ?_
  refine g_aload_n Γ (pc := 21) 0 dX8_step_21 rfl rfl ?_
  refine g_get Γ (pc := 22) (v := .int (m1 0 23)) dX8_step_22 (M_obj hM) fr_X8_254 rfl ?_
  refine g_iconst Γ (pc := 25) (v := 2) dX8_step_25 rfl ?_
  refine g_aload_n Γ (pc := 26) 0 dX8_step_26 rfl rfl ?_
  refine g_get Γ (pc := 27) (v := .int (m1 0 22)) dX8_step_27 (M_obj hM) fr_X8_257 rfl ?_
  refine g_imul Γ (pc := 30) dX8_step_30 ?_
  refine g_iadd Γ (pc := 31) dX8_step_31 ?_
  refine g_iconst Γ (pc := 32) (v := 1) dX8_step_32 rfl ?_
  refine g_iadd Γ (pc := 33) dX8_step_33 ?_
  refine g_iload_n Γ (pc := 34) 2 dX8_step_34 rfl rfl ?_
  refine g_iast Γ (pc := 35) dX8_step_35 (M_1 hM) hf (fun m2 hf => ?_)
  refine g_aload_n Γ (pc := 36) 0 dX8_step_36 rfl rfl ?_
  refine g_dup Γ (pc := 37) dX8_step_37 rfl ?_
  refine g_get Γ (pc := 38) (v := .int (m2 0 22)) dX8_step_38 (M_obj hM) fr_X8_257 rfl ?_
  refine g_iconst Γ (pc := 41) (v := 1) dX8_step_41 rfl ?_
  refine g_iadd Γ (pc := 42) dX8_step_42 ?_
  refine g_put Γ (pc := 43) dX8_step_43 (M_obj hM) fw_X8_257 (Nat.le_of_ble_eq_true rfl) rfl ?_
  refine g_nmm hf (fun m3 hf => ?_)
  exact rV ret dX8_step_46 hf
def f_X8_isName (a0 : Int32) (a1 : Int32) : Option (Int32) :=
  if a0 = 0 then
    if a1 = 111 then
      some 1
    else
      if a1 = 102 then
        some 1
      else
        if a1 = 109 then
          some 1
        else
          some 0
  else
    if a0 = 1 then
      if a1 = 99 then
        some 1
      else
        if a1 = 121 then
          some 1
        else
          some 0
    else
      if a1 = 111 then
        some 1
      else
        if a1 = 112 then
          some 1
        else
          some 0
set_option maxRecDepth 100000 in
set_option maxHeartbeats 4000000 in
theorem c_X8_isName {Y : SYS} {a0 : Int32} {a1 : Int32} {μ : Mem} {x : Int32} (hf : f_X8_isName a0 a1 = some x) : KC Y yX8_isName cX8_isName 2 (some .boolean) 0 [.int a0, .int a1] μ (some (.int x)) μ := by
  refine KC.Z RX8 [(0, .int a0), (1, .int a1)] (by decide) rfl (Nat.le_of_ble_eq_true rfl) rfl (fun G Γ ret => ?_)
  unfold f_X8_isName at hf
  refine g_iload_n Γ (pc := 0) 0 dX8_isName_0 rfl rfl ?_
  by_cases h1_0 : a0 = 0
  · replace hf := ite_t h1_0 hf
    refine g_lin Γ (pc := 1) (off := 27) (tgt := 28) 0 dX8_isName_1 h1_0 (by decide) rfl rfl ?_
    refine g_iload_n Γ (pc := 28) 1 dX8_isName_28 rfl rfl ?_
    refine g_bipush Γ (pc := 29) (v := 111) dX8_isName_29 rfl ?_
    refine g_icmp_eq Γ (pc := 31) (tgt := 46) dX8_isName_31 rfl hf (fun hf => ?_) (fun hf => ?_)
    · refine g_iconst Γ (pc := 46) (v := 1) dX8_isName_46 rfl ?_
      refine g_goto Γ (pc := 47) (tgt := 51) dX8_isName_47 rfl ?_
      exact rZkr ret dX8_isName_51 (Or.inr rfl) hf
    · refine g_iload_n Γ (pc := 34) 1 dX8_isName_34 rfl rfl ?_
      refine g_bipush Γ (pc := 35) (v := 102) dX8_isName_35 rfl ?_
      refine g_icmp_eq Γ (pc := 37) (tgt := 46) dX8_isName_37 rfl hf (fun hf => ?_) (fun hf => ?_)
      · refine g_iconst Γ (pc := 46) (v := 1) dX8_isName_46 rfl ?_
        refine g_goto Γ (pc := 47) (tgt := 51) dX8_isName_47 rfl ?_
        exact rZkr ret dX8_isName_51 (Or.inr rfl) hf
      · refine g_iload_n Γ (pc := 40) 1 dX8_isName_40 rfl rfl ?_
        refine g_bipush Γ (pc := 41) (v := 109) dX8_isName_41 rfl ?_
        refine g_icmp_ne Γ (pc := 43) (tgt := 50) dX8_isName_43 rfl hf (fun hf => ?_) (fun hf => ?_)
        · refine g_iconst Γ (pc := 50) (v := 0) dX8_isName_50 rfl ?_
          exact rZkr ret dX8_isName_51 (Or.inl rfl) hf
        · refine g_iconst Γ (pc := 46) (v := 1) dX8_isName_46 rfl ?_
          refine g_goto Γ (pc := 47) (tgt := 51) dX8_isName_47 rfl ?_
          exact rZkr ret dX8_isName_51 (Or.inr rfl) hf
  · replace hf := ite_f h1_0 hf
    by_cases h1_1 : a0 = 1
    · replace hf := ite_t h1_1 hf
      refine g_lin Γ (pc := 1) (off := 51) (tgt := 52) 1 dX8_isName_1 h1_1 (by decide) rfl rfl ?_
      refine g_iload_n Γ (pc := 52) 1 dX8_isName_52 rfl rfl ?_
      refine g_bipush Γ (pc := 53) (v := 99) dX8_isName_53 rfl ?_
      refine g_icmp_eq Γ (pc := 55) (tgt := 64) dX8_isName_55 rfl hf (fun hf => ?_) (fun hf => ?_)
      · refine g_iconst Γ (pc := 64) (v := 1) dX8_isName_64 rfl ?_
        refine g_goto Γ (pc := 65) (tgt := 69) dX8_isName_65 rfl ?_
        exact rZkr ret dX8_isName_69 (Or.inr rfl) hf
      · refine g_iload_n Γ (pc := 58) 1 dX8_isName_58 rfl rfl ?_
        refine g_bipush Γ (pc := 59) (v := 121) dX8_isName_59 rfl ?_
        refine g_icmp_ne Γ (pc := 61) (tgt := 68) dX8_isName_61 rfl hf (fun hf => ?_) (fun hf => ?_)
        · refine g_iconst Γ (pc := 68) (v := 0) dX8_isName_68 rfl ?_
          exact rZkr ret dX8_isName_69 (Or.inl rfl) hf
        · refine g_iconst Γ (pc := 64) (v := 1) dX8_isName_64 rfl ?_
          refine g_goto Γ (pc := 65) (tgt := 69) dX8_isName_65 rfl ?_
          exact rZkr ret dX8_isName_69 (Or.inr rfl) hf
    · replace hf := ite_f h1_1 hf
      refine g_lookup Γ (pc := 1) (off := 69) (tgt := 70) dX8_isName_1 (by decide) (by show Op.lookupswitch.offset [(0, 27), (1, 51)] 69 _ = _; rw [Op.lookupswitch.offset_cons, if_neg (Ne.symm (ne_ti (k := 0) rfl h1_0)), Op.lookupswitch.offset_cons, if_neg (Ne.symm (ne_ti (k := 1) rfl h1_1))]; rfl) rfl ?_
      refine g_iload_n Γ (pc := 70) 1 dX8_isName_70 rfl rfl ?_
      refine g_bipush Γ (pc := 71) (v := 111) dX8_isName_71 rfl ?_
      refine g_icmp_eq Γ (pc := 73) (tgt := 82) dX8_isName_73 rfl hf (fun hf => ?_) (fun hf => ?_)
      · refine g_iconst Γ (pc := 82) (v := 1) dX8_isName_82 rfl ?_
        refine g_goto Γ (pc := 83) (tgt := 87) dX8_isName_83 rfl ?_
        exact rZkr ret dX8_isName_87 (Or.inr rfl) hf
      · refine g_iload_n Γ (pc := 76) 1 dX8_isName_76 rfl rfl ?_
        refine g_bipush Γ (pc := 77) (v := 112) dX8_isName_77 rfl ?_
        refine g_icmp_ne Γ (pc := 79) (tgt := 86) dX8_isName_79 rfl hf (fun hf => ?_) (fun hf => ?_)
        · refine g_iconst Γ (pc := 86) (v := 0) dX8_isName_86 rfl ?_
          exact rZkr ret dX8_isName_87 (Or.inl rfl) hf
        · refine g_iconst Γ (pc := 82) (v := 1) dX8_isName_82 rfl ?_
          refine g_goto Γ (pc := 83) (tgt := 87) dX8_isName_83 rfl ?_
          exact rZkr ret dX8_isName_87 (Or.inr rfl) hf
def f_X8_isSign (a0 : Int32) (μ : Mem) : Option (Int32) :=
  if (μ 0 17) = 3 then
    if (μ 0 19) = a0 then
      some 1
    else
      some 0
  else
    some 0
set_option maxRecDepth 100000 in
set_option maxHeartbeats 4000000 in
theorem c_X8_isSign {Y : SYS} (hM : IsM Y) {a0 : Int32} {μ : Mem} {x : Int32} (hf : f_X8_isSign a0 μ = some x) : KC Y yX8_isSign cX8_isSign 2 (some .boolean) 0 [.ref (sq Y 0), .int a0] μ (some (.int x)) μ := by
  refine KC.Z RX8 [(0, .ref (sq Y 0)), (1, .int a0)] (by decide) rfl (Nat.le_of_ble_eq_true rfl) rfl (fun G Γ ret => ?_)
  unfold f_X8_isSign at hf
  refine g_aload_n Γ (pc := 0) 0 dX8_isSign_0 rfl rfl ?_
  refine g_get Γ (pc := 1) (v := .int (μ 0 17)) dX8_isSign_1 (M_obj hM) fr_X8_232 rfl ?_
  refine g_iconst Γ (pc := 4) (v := 3) dX8_isSign_4 rfl ?_
  refine g_icmp_ne Γ (pc := 5) (tgt := 20) dX8_isSign_5 rfl hf (fun hf => ?_) (fun hf => ?_)
  · refine g_iconst Γ (pc := 20) (v := 0) dX8_isSign_20 rfl ?_
    exact rZkr ret dX8_isSign_21 (Or.inl rfl) hf
  · refine g_aload_n Γ (pc := 8) 0 dX8_isSign_8 rfl rfl ?_
    refine g_get Γ (pc := 9) (v := .int (μ 0 19)) dX8_isSign_9 (M_obj hM) fr_X8_241 rfl ?_
    refine g_iload_n Γ (pc := 12) 1 dX8_isSign_12 rfl rfl ?_
    refine g_icmp_ne Γ (pc := 13) (tgt := 20) dX8_isSign_13 rfl hf (fun hf => ?_) (fun hf => ?_)
    · refine g_iconst Γ (pc := 20) (v := 0) dX8_isSign_20 rfl ?_
      exact rZkr ret dX8_isSign_21 (Or.inl rfl) hf
    · refine g_iconst Γ (pc := 16) (v := 1) dX8_isSign_16 rfl ?_
      refine g_goto Γ (pc := 17) (tgt := 21) dX8_isSign_17 rfl ?_
      exact rZkr ret dX8_isSign_21 (Or.inr rfl) hf
