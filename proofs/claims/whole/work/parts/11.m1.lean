def f_X8_isIn (a0 : Int64) (a1 : Int64) (a2 : Int64) : Option (Int32) :=
  if (lg_cmp a0 a1) < 0 then
    some 0
  else
    if 0 < (lg_cmp a0 a2) then
      some 0
    else
      some 1
set_option maxRecDepth 100000 in
set_option maxHeartbeats 4000000 in
theorem c_X8_isIn {Y : SYS} {a0 : Int64} {a1 : Int64} {a2 : Int64} {μ : Mem} {x : Int32} (hf : f_X8_isIn a0 a1 a2 = some x) : KC Y yX8_isIn cX8_isIn 6 (some .boolean) 0 [.long a0, .long a1, .long a2] μ (some (.int x)) μ := by
  refine KC.Z RX8 [(0, .long a0), (2, .long a1), (4, .long a2)] (by decide) rfl (Nat.le_of_ble_eq_true rfl) rfl (fun G Γ ret => ?_)
  unfold f_X8_isIn at hf
  refine g_lload_n Γ (pc := 0) 0 dX8_isIn_0 rfl rfl ?_
  refine g_lload_n Γ (pc := 1) 1 dX8_isIn_1 rfl rfl ?_
  refine g_lcmp Γ (pc := 2) dX8_isIn_2 ?_
  refine g_if_lt Γ (pc := 3) (tgt := 17) dX8_isIn_3 rfl hf (fun hf => ?_) (fun hf => ?_)
  · refine g_iconst Γ (pc := 17) (v := 0) dX8_isIn_17 rfl ?_
    exact rZkr ret dX8_isIn_18 (Or.inl rfl) hf
  · refine g_lload_n Γ (pc := 6) 0 dX8_isIn_6 rfl rfl ?_
    refine g_lload Γ (pc := 7) 2 dX8_isIn_7 rfl ?_
    refine g_lcmp Γ (pc := 9) dX8_isIn_9 ?_
    refine g_if_gt Γ (pc := 10) (tgt := 17) dX8_isIn_10 rfl hf (fun hf => ?_) (fun hf => ?_)
    · refine g_iconst Γ (pc := 17) (v := 0) dX8_isIn_17 rfl ?_
      exact rZkr ret dX8_isIn_18 (Or.inl rfl) hf
    · refine g_iconst Γ (pc := 13) (v := 1) dX8_isIn_13 rfl ?_
      refine g_goto Γ (pc := 14) (tgt := 18) dX8_isIn_14 rfl ?_
      exact rZkr ret dX8_isIn_18 (Or.inr rfl) hf
def f_X8_manyIn_K4_20 (y1_1 : Int32) : Option (Int32) :=
  some y1_1
def f_X8_manyIn_L4 (x1_2 : Int32) (x2_3 : Int32) : Option ((Int32 × Int32) ⊕ Int32) :=
  if x2_3 = 0 then
    some (.inr x1_2)
  else
    some (.inl (x1_2 + 1, (x2_3 &&& (x2_3 - 1))))
def f_X8_manyIn (a0 : Int32) : Option (Int32) :=
  bn1 (lpF (fun v => f_X8_manyIn_L4 v.1 v.2) 4000 (0, a0)) (fun x => f_X8_manyIn_K4_20 x)
set_option maxRecDepth 100000 in
set_option maxHeartbeats 4000000 in
theorem c_X8_manyIn {Y : SYS} {a0 : Int32} {μ : Mem} {x : Int32} (hf : f_X8_manyIn a0 = some x) : KC Y yX8_manyIn cX8_manyIn 3 (some .int) 0 [.int a0] μ (some (.int x)) μ := by
  refine KC.I RX8 [(0, .int a0)] (by decide) rfl (Nat.le_of_ble_eq_true rfl) rfl (fun G Γ ret => ?_)
  unfold f_X8_manyIn at hf
  refine g_iconst Γ (pc := 0) (v := 0) dX8_manyIn_0 rfl ?_
  refine g_istore_n Γ (pc := 1) (lv' := [(1, .int 0), (0, .int a0)]) dX8_manyIn_1 rfl (by decide) rfl ?_
  refine g_iload_n Γ (pc := 2) 1 dX8_manyIn_2 rfl rfl ?_
  refine g_istore_n Γ (pc := 3) (lv' := [(2, .int a0), (1, .int 0), (0, .int a0)]) dX8_manyIn_3 rfl (by decide) rfl ?_
  have K_4_20 : ∀ (y1_1 : Int32), f_X8_manyIn_K4_20 y1_1 = some x → G 20 [(1, .int y1_1)] [] μ := by
    intro y1_1 hf
    unfold f_X8_manyIn_K4_20 at hf
    refine g_iload_n Γ (pc := 20) 0 dX8_manyIn_20 rfl rfl ?_
    exact rIr ret dX8_manyIn_21 hf
  refine g_sub Γ [1, 0] rfl ?_
  refine lpF_s (P := fun (v : Int32 × Int32) => G 4 [(1, .int v.1), (2, .int v.2)] [] μ) hf (fun v z1 hf kI1 kX1 => ?_)
  obtain ⟨x1_2, x2_3⟩ := v
  replace hf : f_X8_manyIn_L4 x1_2 x2_3 = some z1 := hf
  show G 4 [(1, .int x1_2), (2, .int x2_3)] [] μ
  unfold f_X8_manyIn_L4 at hf
  refine g_iload_n Γ (pc := 4) 1 dX8_manyIn_4 rfl rfl ?_
  refine g_if_eq Γ (pc := 5) (tgt := 20) dX8_manyIn_5 rfl hf (fun hf => ?_) (fun hf => ?_)
  · refine g_sub Γ [0] rfl ?_
    exact K_4_20 x1_2 (kX1 _ (Option.some.inj hf).symm)
  · refine g_iinc Γ (pc := 8) (v := x1_2 + 1) (lv' := [(1, .int (x1_2 + 1)), (2, .int x2_3)]) 0 dX8_manyIn_8 rfl rfl (by decide) rfl ?_
    refine g_iload_n Γ (pc := 11) 1 dX8_manyIn_11 rfl rfl ?_
    refine g_iload_n Γ (pc := 12) 1 dX8_manyIn_12 rfl rfl ?_
    refine g_iconst Γ (pc := 13) (v := 1) dX8_manyIn_13 rfl ?_
    refine g_isub Γ (pc := 14) dX8_manyIn_14 ?_
    refine g_iand Γ (pc := 15) dX8_manyIn_15 ?_
    refine g_istore_n Γ (pc := 16) (lv' := [(2, .int (x2_3 &&& (x2_3 - 1))), (1, .int (x1_2 + 1))]) dX8_manyIn_16 rfl (by decide) rfl ?_
    refine g_goto Γ (pc := 17) (tgt := 4) dX8_manyIn_17 rfl ?_
    refine g_sub Γ [1, 0] rfl ?_
    exact kI1 (x1_2 + 1, (x2_3 &&& (x2_3 - 1))) (Option.some.inj hf).symm
def f_X8_off (a0 : Int32) (a1 : Int32) : Option (Int32) :=
  if a1 ≤ a0 then
    some (a0 - a1)
  else
    some (a1 - a0)
set_option maxRecDepth 100000 in
set_option maxHeartbeats 4000000 in
theorem c_X8_off {Y : SYS} {a0 : Int32} {a1 : Int32} {μ : Mem} {x : Int32} (hf : f_X8_off a0 a1 = some x) : KC Y yX8_off cX8_off 2 (some .int) 0 [.int a0, .int a1] μ (some (.int x)) μ := by
  refine KC.I RX8 [(0, .int a0), (1, .int a1)] (by decide) rfl (Nat.le_of_ble_eq_true rfl) rfl (fun G Γ ret => ?_)
  unfold f_X8_off at hf
  refine g_iload_n Γ (pc := 0) 0 dX8_off_0 rfl rfl ?_
  refine g_iload_n Γ (pc := 1) 1 dX8_off_1 rfl rfl ?_
  refine g_icmp_ge Γ (pc := 2) (tgt := 11) dX8_off_2 rfl hf (fun hf => ?_) (fun hf => ?_)
  · refine g_iload_n Γ (pc := 11) 0 dX8_off_11 rfl rfl ?_
    refine g_iload_n Γ (pc := 12) 1 dX8_off_12 rfl rfl ?_
    refine g_isub Γ (pc := 13) dX8_off_13 ?_
    exact rIr ret dX8_off_14 hf
  · refine g_iload_n Γ (pc := 5) 1 dX8_off_5 rfl rfl ?_
    refine g_iload_n Γ (pc := 6) 0 dX8_off_6 rfl rfl ?_
    refine g_isub Γ (pc := 7) dX8_off_7 ?_
    refine g_goto Γ (pc := 8) (tgt := 14) dX8_off_8 rfl ?_
    exact rIr ret dX8_off_14 hf
def f_X8_of (a0 : Int32) (a1 : Int32) (μ : Mem) : Option (Int32) :=
  bn1 (ldM (μ 1) 3059 ((9 + (5 * a0)) + a1)) fun v1 =>
  some v1
set_option maxRecDepth 100000 in
set_option maxHeartbeats 4000000 in
theorem c_X8_of {Y : SYS} (hM : IsM Y) {a0 : Int32} {a1 : Int32} {μ : Mem} {x : Int32} (hf : f_X8_of a0 a1 μ = some x) : KC Y yX8_of cX8_of 3 (some .int) 0 [.ref (sq Y 0), .int a0, .int a1] μ (some (.int x)) μ := by
  refine KC.I RX8 [(0, .ref (sq Y 0)), (1, .int a0), (2, .int a1)] (by decide) rfl (Nat.le_of_ble_eq_true rfl) rfl (fun G Γ ret => ?_)
  unfold f_X8_of at hf
  refine g_aload_n Γ (pc := 0) 0 dX8_of_0 rfl rfl ?_
  refine g_get Γ (pc := 1) (v := .ref (sq Y 1)) dX8_of_1 (M_obj hM) fr_X8_7 rfl ?_
  refine g_bipush Γ (pc := 4) (v := 9) dX8_of_4 rfl ?_
  refine g_iconst Γ (pc := 6) (v := 5) dX8_of_6 rfl ?_
  refine g_iload_n Γ (pc := 7) 1 dX8_of_7 rfl rfl ?_
  refine g_imul Γ (pc := 8) dX8_of_8 ?_
  refine g_iadd Γ (pc := 9) dX8_of_9 ?_
  refine g_iload_n Γ (pc := 10) 2 dX8_of_10 rfl rfl ?_
  refine g_iadd Γ (pc := 11) dX8_of_11 ?_
  refine g_iald Γ (pc := 12) dX8_of_12 (M_1 hM) hf (fun v1 hf => ?_)
  exact rIr ret dX8_of_13 hf
def f_X8_offBy (a0 : Int32) (a1 : Int32) (μ : Mem) : Option (Int32) :=
  bn1 (f_X8_of a0 4 μ) fun v1 =>
  bn1 (f_X8_manyIn v1) fun v2 =>
  bn1 (f_X8_of a0 4 μ) fun v3 =>
  bn1 (f_X8_manyIn (v3 &&& a1)) fun v4 =>
  bn1 (f_X8_off (2 * v4) v2) fun v5 =>
  some v5
set_option maxRecDepth 100000 in
set_option maxHeartbeats 4000000 in
theorem c_X8_offBy {Y : SYS} (hM : IsM Y) {a0 : Int32} {a1 : Int32} {μ : Mem} {x : Int32} (hf : f_X8_offBy a0 a1 μ = some x) : KC Y yX8_offBy cX8_offBy 4 (some .int) 1 [.ref (sq Y 0), .int a0, .int a1] μ (some (.int x)) μ := by
  refine KC.I RX8 [(0, .ref (sq Y 0)), (1, .int a0), (2, .int a1)] (by decide) rfl (Nat.le_of_ble_eq_true rfl) rfl (fun G Γ ret => ?_)
  unfold f_X8_offBy at hf
  refine g_aload_n Γ (pc := 0) 0 dX8_offBy_0 rfl rfl ?_
  refine g_iload_n Γ (pc := 1) 1 dX8_offBy_1 rfl rfl ?_
  refine g_iconst Γ (pc := 2) (v := 4) dX8_offBy_2 rfl ?_
  obtain ⟨v1, h1, hf⟩ := bn1_i hf
  refine g_callVI Γ (pc := 3) (as := [.int a0, .int 4]) (st := []) dX8_offBy_3 (c_X8_of hM h1) (M_obj hM) rfl mi_X8_of mv_X8_of kM_X8_83 rfl ⟨Nat.le_of_ble_eq_true rfl, Nat.le_of_ble_eq_true rfl⟩ rfl (Nat.le_of_ble_eq_true rfl) ?_
  obtain ⟨v2, h1, hf⟩ := bn1_i hf
  refine g_callSI Γ (pc := 6) (as := [.int v1]) (st := []) dX8_offBy_6 (c_X8_manyIn h1) mi_X8_manyIn ms_X8_manyIn kM_X8_87 rfl ⟨Nat.le_of_ble_eq_true rfl, Nat.le_of_ble_eq_true rfl⟩ rfl (Nat.le_of_ble_eq_true rfl) ?_
  refine g_istore_n Γ (pc := 9) (lv' := [(3, .int v2), (0, .ref (sq Y 0)), (1, .int a0), (2, .int a1)]) dX8_offBy_9 rfl (by decide) rfl ?_
  refine g_iconst Γ (pc := 10) (v := 2) dX8_offBy_10 rfl ?_
  refine g_aload_n Γ (pc := 11) 1 dX8_offBy_11 rfl rfl ?_
  refine g_iload_n Γ (pc := 12) 2 dX8_offBy_12 rfl rfl ?_
  refine g_iconst Γ (pc := 13) (v := 4) dX8_offBy_13 rfl ?_
  obtain ⟨v3, h1, hf⟩ := bn1_i hf
  refine g_callVI Γ (pc := 14) (as := [.int a0, .int 4]) (st := [.int 2]) dX8_offBy_14 (c_X8_of hM h1) (M_obj hM) rfl mi_X8_of mv_X8_of kM_X8_83 rfl ⟨Nat.le_of_ble_eq_true rfl, Nat.le_of_ble_eq_true rfl⟩ rfl (Nat.le_of_ble_eq_true rfl) ?_
  refine g_iload_n Γ (pc := 17) 3 dX8_offBy_17 rfl rfl ?_
  refine g_iand Γ (pc := 18) dX8_offBy_18 ?_
  obtain ⟨v4, h1, hf⟩ := bn1_i hf
  refine g_callSI Γ (pc := 19) (as := [.int (v3 &&& a1)]) (st := [.int 2]) dX8_offBy_19 (c_X8_manyIn h1) mi_X8_manyIn ms_X8_manyIn kM_X8_87 rfl ⟨Nat.le_of_ble_eq_true rfl, Nat.le_of_ble_eq_true rfl⟩ rfl (Nat.le_of_ble_eq_true rfl) ?_
  refine g_imul Γ (pc := 22) dX8_offBy_22 ?_
  refine g_iload_n Γ (pc := 23) 0 dX8_offBy_23 rfl rfl ?_
  obtain ⟨v5, h1, hf⟩ := bn1_i hf
  refine g_callSI Γ (pc := 24) (as := [.int (2 * v4), .int v2]) (st := []) dX8_offBy_24 (c_X8_off h1) mi_X8_off ms_X8_off kM_X8_91 rfl ⟨Nat.le_of_ble_eq_true rfl, Nat.le_of_ble_eq_true rfl⟩ rfl (Nat.le_of_ble_eq_true rfl) ?_
  exact rIr ret dX8_offBy_27 hf
def f_X8_forNow_K4_31 (y1_1 : Int32) : Option (Int32) :=
  some y1_1
def f_X8_forNow_L4 (μ : Mem) (x1_2 : Int32) (x2_3 : Int32) : Option ((Int32 × Int32) ⊕ Int32) :=
  bn1 (ldM (μ 1) 3059 0) fun v4 =>
  if v4 ≤ x2_3 then
    some (.inr x1_2)
  else
    bn1 (f_X8_of x2_3 1 μ) fun v5 =>
    nm (x1_2 ||| (v5 <<< (x2_3 &&& 31))) fun e6 =>
    some (.inl (e6, x2_3 + 1))
def f_X8_forNow (μ : Mem) : Option (Int32) :=
  bn1 (lpF (fun v => f_X8_forNow_L4 μ v.1 v.2) 4000 (0, 0)) (fun x => f_X8_forNow_K4_31 x)
set_option maxRecDepth 100000 in
set_option maxHeartbeats 4000000 in
theorem c_X8_forNow {Y : SYS} (hM : IsM Y) {μ : Mem} {x : Int32} (hf : f_X8_forNow μ = some x) : KC Y yX8_forNow cX8_forNow 3 (some .int) 1 [.ref (sq Y 0)] μ (some (.int x)) μ := by
  refine KC.I RX8 [(0, .ref (sq Y 0))] (by decide) rfl (Nat.le_of_ble_eq_true rfl) rfl (fun G Γ ret => ?_)
  unfold f_X8_forNow at hf
  refine g_iconst Γ (pc := 0) (v := 0) dX8_forNow_0 rfl ?_
  refine g_istore_n Γ (pc := 1) (lv' := [(1, .int 0), (0, .ref (sq Y 0))]) dX8_forNow_1 rfl (by decide) rfl ?_
  refine g_iconst Γ (pc := 2) (v := 0) dX8_forNow_2 rfl ?_
  refine g_istore_n Γ (pc := 3) (lv' := [(2, .int 0), (1, .int 0), (0, .ref (sq Y 0))]) dX8_forNow_3 rfl (by decide) rfl ?_
  have K_4_31 : ∀ (y1_1 : Int32), f_X8_forNow_K4_31 y1_1 = some x → G 31 [(1, .int y1_1)] [] μ := by
    intro y1_1 hf
    unfold f_X8_forNow_K4_31 at hf
    refine g_iload_n Γ (pc := 31) 0 dX8_forNow_31 rfl rfl ?_
    exact rIr ret dX8_forNow_32 hf
  refine g_sub Γ [2, 1, 0] rfl ?_
  refine lpF_s (P := fun (v : Int32 × Int32) => G 4 [(0, .ref (sq Y 0)), (1, .int v.1), (2, .int v.2)] [] μ) hf (fun v z1 hf kI1 kX1 => ?_)
  obtain ⟨x1_2, x2_3⟩ := v
  replace hf : f_X8_forNow_L4 μ x1_2 x2_3 = some z1 := hf
  show G 4 [(0, .ref (sq Y 0)), (1, .int x1_2), (2, .int x2_3)] [] μ
  unfold f_X8_forNow_L4 at hf
  refine g_iload_n Γ (pc := 4) 2 dX8_forNow_4 rfl rfl ?_
  refine g_aload_n Γ (pc := 5) 0 dX8_forNow_5 rfl rfl ?_
  refine g_get Γ (pc := 6) (v := .ref (sq Y 1)) dX8_forNow_6 (M_obj hM) fr_X8_7 rfl ?_
  refine g_iconst Γ (pc := 9) (v := 0) dX8_forNow_9 rfl ?_
  refine g_iald Γ (pc := 10) dX8_forNow_10 (M_1 hM) hf (fun v4 hf => ?_)
  refine g_icmp_ge Γ (pc := 11) (tgt := 31) dX8_forNow_11 rfl hf (fun hf => ?_) (fun hf => ?_)
  · refine g_sub Γ [1] rfl ?_
    exact K_4_31 x1_2 (kX1 _ (Option.some.inj hf).symm)
  · refine g_iload_n Γ (pc := 14) 1 dX8_forNow_14 rfl rfl ?_
    refine g_aload_n Γ (pc := 15) 0 dX8_forNow_15 rfl rfl ?_
    refine g_iload_n Γ (pc := 16) 2 dX8_forNow_16 rfl rfl ?_
    refine g_iconst Γ (pc := 17) (v := 1) dX8_forNow_17 rfl ?_
    obtain ⟨v5, h1, hf⟩ := bn1_i hf
    refine g_callVI Γ (pc := 18) (as := [.int x2_3, .int 1]) (st := [.int x1_2]) dX8_forNow_18 (c_X8_of hM h1) (M_obj hM) rfl mi_X8_of mv_X8_of kM_X8_83 rfl ⟨Nat.le_of_ble_eq_true rfl, Nat.le_of_ble_eq_true rfl⟩ rfl (Nat.le_of_ble_eq_true rfl) ?_
    refine g_iload_n Γ (pc := 21) 2 dX8_forNow_21 rfl rfl ?_
    refine g_ishl Γ (pc := 22) dX8_forNow_22 ?_
    refine g_ior Γ (pc := 23) dX8_forNow_23 ?_
    refine g_nmi hf (fun e6 hf => ?_)
    refine g_istore_n Γ (pc := 24) (lv' := [(1, .int e6), (0, .ref (sq Y 0)), (2, .int x2_3)]) dX8_forNow_24 rfl (by decide) rfl ?_
    refine g_iinc Γ (pc := 25) (v := x2_3 + 1) (lv' := [(2, .int (x2_3 + 1)), (1, .int e6), (0, .ref (sq Y 0))]) 2 dX8_forNow_25 rfl rfl (by decide) rfl ?_
    refine g_goto Γ (pc := 28) (tgt := 4) dX8_forNow_28 rfl ?_
    refine g_sub Γ [2, 1, 0] rfl ?_
    exact kI1 (e6, x2_3 + 1) (Option.some.inj hf).symm
def f_X8_disorder_K4_46 (y2_1 : Int32) : Option (Int32) :=
  some y2_1
def f_X8_disorder_J38 (x2_2 : Int32) (x3_3 : Int32) (s7 : Int32) : Option ((Int32 × Int32) ⊕ Int32) :=
  some (.inl ((x2_2 ||| s7), x3_3 + 1))
def f_X8_disorder_L4 (a0 : Int32) (μ : Mem) (x2_2 : Int32) (x3_3 : Int32) : Option ((Int32 × Int32) ⊕ Int32) :=
  bn1 (ldM (μ 1) 3059 0) fun v4 =>
  if v4 ≤ x3_3 then
    some (.inr x2_2)
  else
    bn1 (f_X8_offBy x3_3 a0 μ) fun v5 =>
    bn1 (ldM (μ 1) 3059 6) fun v6 =>
    if v5 ≤ v6 then
      f_X8_disorder_J38 x2_2 x3_3 0
    else
      f_X8_disorder_J38 x2_2 x3_3 (1 <<< (x3_3 &&& 31))
def f_X8_disorder (a0 : Int32) (μ : Mem) : Option (Int32) :=
  bn1 (lpF (fun v => f_X8_disorder_L4 a0 μ v.1 v.2) 4000 (0, 0)) (fun x => f_X8_disorder_K4_46 x)
set_option maxRecDepth 100000 in
set_option maxHeartbeats 4000000 in
theorem c_X8_disorder {Y : SYS} (hM : IsM Y) {a0 : Int32} {μ : Mem} {x : Int32} (hf : f_X8_disorder a0 μ = some x) : KC Y yX8_disorder cX8_disorder 4 (some .int) 2 [.ref (sq Y 0), .int a0] μ (some (.int x)) μ := by
  refine KC.I RX8 [(0, .ref (sq Y 0)), (1, .int a0)] (by decide) rfl (Nat.le_of_ble_eq_true rfl) rfl (fun G Γ ret => ?_)
  unfold f_X8_disorder at hf
  refine g_iconst Γ (pc := 0) (v := 0) dX8_disorder_0 rfl ?_
  refine g_istore_n Γ (pc := 1) (lv' := [(2, .int 0), (0, .ref (sq Y 0)), (1, .int a0)]) dX8_disorder_1 rfl (by decide) rfl ?_
  refine g_iconst Γ (pc := 2) (v := 0) dX8_disorder_2 rfl ?_
  refine g_istore_n Γ (pc := 3) (lv' := [(3, .int 0), (2, .int 0), (0, .ref (sq Y 0)), (1, .int a0)]) dX8_disorder_3 rfl (by decide) rfl ?_
  have K_4_46 : ∀ (y2_1 : Int32), f_X8_disorder_K4_46 y2_1 = some x → G 46 [(2, .int y2_1)] [] μ := by
    intro y2_1 hf
    unfold f_X8_disorder_K4_46 at hf
    refine g_iload_n Γ (pc := 46) 0 dX8_disorder_46 rfl rfl ?_
    exact rIr ret dX8_disorder_47 hf
  refine g_sub Γ [2, 3, 1, 0] rfl ?_
  refine lpF_s (P := fun (v : Int32 × Int32) => G 4 [(0, .ref (sq Y 0)), (1, .int a0), (2, .int v.1), (3, .int v.2)] [] μ) hf (fun v z1 hf kI1 kX1 => ?_)
  obtain ⟨x2_2, x3_3⟩ := v
  replace hf : f_X8_disorder_L4 a0 μ x2_2 x3_3 = some z1 := hf
  show G 4 [(0, .ref (sq Y 0)), (1, .int a0), (2, .int x2_2), (3, .int x3_3)] [] μ
  unfold f_X8_disorder_L4 at hf
  refine g_iload_n Γ (pc := 4) 3 dX8_disorder_4 rfl rfl ?_
  refine g_aload_n Γ (pc := 5) 0 dX8_disorder_5 rfl rfl ?_
  refine g_get Γ (pc := 6) (v := .ref (sq Y 1)) dX8_disorder_6 (M_obj hM) fr_X8_7 rfl ?_
  refine g_iconst Γ (pc := 9) (v := 0) dX8_disorder_9 rfl ?_
  refine g_iald Γ (pc := 10) dX8_disorder_10 (M_1 hM) hf (fun v4 hf => ?_)
  refine g_icmp_ge Γ (pc := 11) (tgt := 46) dX8_disorder_11 rfl hf (fun hf => ?_) (fun hf => ?_)
  · refine g_sub Γ [2] rfl ?_
    exact K_4_46 x2_2 (kX1 _ (Option.some.inj hf).symm)
  · refine g_iload_n Γ (pc := 14) 2 dX8_disorder_14 rfl rfl ?_
    refine g_aload_n Γ (pc := 15) 0 dX8_disorder_15 rfl rfl ?_
    refine g_iload_n Γ (pc := 16) 3 dX8_disorder_16 rfl rfl ?_
    refine g_iload_n Γ (pc := 17) 1 dX8_disorder_17 rfl rfl ?_
    obtain ⟨v5, h1, hf⟩ := bn1_i hf
    refine g_callVI Γ (pc := 18) (as := [.int x3_3, .int a0]) (st := [.int x2_2]) dX8_disorder_18 (c_X8_offBy hM h1) (M_obj hM) rfl mi_X8_offBy mv_X8_offBy kM_X8_98 rfl ⟨Nat.le_of_ble_eq_true rfl, Nat.le_of_ble_eq_true rfl⟩ rfl (Nat.le_of_ble_eq_true rfl) ?_
    refine g_aload_n Γ (pc := 21) 0 dX8_disorder_21 rfl rfl ?_
    refine g_get Γ (pc := 22) (v := .ref (sq Y 1)) dX8_disorder_22 (M_obj hM) fr_X8_7 rfl ?_
    refine g_bipush Γ (pc := 25) (v := 6) dX8_disorder_25 rfl ?_
    refine g_iald Γ (pc := 27) dX8_disorder_27 (M_1 hM) hf (fun v6 hf => ?_)
    have J_38 : ∀ (s7 : Int32), f_X8_disorder_J38 x2_2 x3_3 s7 = some z1 → G 38 [(0, .ref (sq Y 0)), (1, .int a0), (3, .int x3_3)] [.int s7, .int x2_2] μ := by
      intro s7 hf
      unfold f_X8_disorder_J38 at hf
      refine g_ior Γ (pc := 38) dX8_disorder_38 ?_
      refine g_istore_n Γ (pc := 39) (lv' := [(2, .int (x2_2 ||| s7)), (0, .ref (sq Y 0)), (1, .int a0), (3, .int x3_3)]) dX8_disorder_39 rfl (by decide) rfl ?_
      refine g_iinc Γ (pc := 40) (v := x3_3 + 1) (lv' := [(3, .int (x3_3 + 1)), (2, .int (x2_2 ||| s7)), (0, .ref (sq Y 0)), (1, .int a0)]) 3 dX8_disorder_40 rfl rfl (by decide) rfl ?_
      refine g_goto Γ (pc := 43) (tgt := 4) dX8_disorder_43 rfl ?_
      refine g_sub Γ [2, 3, 1, 0] rfl ?_
      exact kI1 ((x2_2 ||| s7), x3_3 + 1) (Option.some.inj hf).symm
    refine g_icmp_le Γ (pc := 28) (tgt := 37) dX8_disorder_28 rfl hf (fun hf => ?_) (fun hf => ?_)
    · refine g_iconst Γ (pc := 37) (v := 0) dX8_disorder_37 rfl ?_
      refine g_sub Γ [0, 1, 3] rfl ?_
      exact J_38 0 hf
    · refine g_iconst Γ (pc := 31) (v := 1) dX8_disorder_31 rfl ?_
      refine g_iload_n Γ (pc := 32) 3 dX8_disorder_32 rfl rfl ?_
      refine g_ishl Γ (pc := 33) dX8_disorder_33 ?_
      refine g_goto Γ (pc := 34) (tgt := 38) dX8_disorder_34 rfl ?_
      refine g_sub Γ [0, 1, 3] rfl ?_
      exact J_38 (1 <<< (x3_3 &&& 31)) hf
