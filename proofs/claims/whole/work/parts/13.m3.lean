def f_X8_part0_J145 (rec : Nat → Int32 → Mem → Option (Int32 × Mem)) (a0 : Int32) (μ : Mem) : Option (Int32 × Mem) :=
  bn1 (f_X8_isSign 40 μ) fun v2 =>
  if v2 = 0 then
    some (0, μ)
  else
    if (μ 0 20) = 8 then
      some (0, μ)
    else
      nm (mset μ 0 20 ((μ 0 20) + 1)) fun m3 =>
      bn1 (f_X8_nextToken m3) fun m4 =>
      bn2 (rec 0 a0 m4) fun v5 m6 =>
      if v5 = 0 then
        some (0, m6)
      else
        bn1 (f_X8_isSign 41 m6) fun v7 =>
        if v7 = 0 then
          some (0, m6)
        else
          nm (mset m6 0 20 ((m6 0 20) - 1)) fun m8 =>
          bn1 (f_X8_nextToken m8) fun m9 =>
          some (1, m9)
def f_X8_part0_J84 (rec : Nat → Int32 → Mem → Option (Int32 × Mem)) (a0 : Int32) (μ : Mem) : Option (Int32 × Mem) :=
  bn1 (f_X8_isSign 33 μ) fun v1 =>
  if v1 = 0 then
    f_X8_part0_J145 rec a0 μ
  else
    if 8 ≤ (μ 0 21) then
      f_X8_part0_J145 rec a0 μ
    else
      nm (mset μ 0 21 ((μ 0 21) + 1)) fun m10 =>
      bn1 (f_X8_nextToken m10) fun m11 =>
      bn2 (rec 5 a0 m11) fun v12 m13 =>
      if v12 = 0 then
        some (0, m13)
      else
        nm (mset m13 0 21 ((m13 0 21) - 1)) fun m14 =>
        bn1 (f_X8_step 2 33 m14) fun m15 =>
        some (1, m15)
def F_X8_part0 (rec : Nat → Int32 → Mem → Option (Int32 × Mem)) (a0 : Int32) (μ : Mem) : Option (Int32 × Mem) :=
  if (μ 0 17) = 2 then
    bn1 (f_X8_step 0 (μ 0 18) μ) fun m20 =>
    nm (mset m20 0 24 ((m20 0 24) + 1)) fun m21 =>
    bn1 (f_X8_nextToken m21) fun m22 =>
    some (1, m22)
  else
    if (μ 0 17) = 1 then
      if (μ 0 19) = 0 then
        f_X8_part0_J84 rec a0 μ
      else
        bn1 (f_X8_isName a0 (μ 0 19)) fun v16 =>
        if v16 = 0 then
          f_X8_part0_J84 rec a0 μ
        else
          bn1 (f_X8_step 1 (μ 0 19) μ) fun m17 =>
          nm (mset m17 0 24 ((m17 0 24) + 1)) fun m18 =>
          bn1 (f_X8_nextToken m18) fun m19 =>
          some (1, m19)
    else
      f_X8_part0_J84 rec a0 μ
set_option maxRecDepth 100000 in
set_option maxHeartbeats 4000000 in
theorem o_X8_part0 {Y : SYS} (hM : IsM Y) {rec : Nat → Int32 → Mem → Option (Int32 × Mem)} {n : Nat} (hrec_X8_part0 : ∀ {a0 : Int32} {μ m : Mem} {x : Int32}, rec 5 a0 μ = some (x, m) → KC Y yX8_part0 cX8_part0 2 (some .boolean) (3 + n) [.ref (sq Y 0), .int a0] μ (some (.int x)) m) (hrec_X8_either : ∀ {a0 : Int32} {μ m : Mem} {x : Int32}, rec 0 a0 μ = some (x, m) → KC Y yX8_either cX8_either 2 (some .boolean) (3 + n) [.ref (sq Y 0), .int a0] μ (some (.int x)) m) {a0 : Int32} {μ : Mem} {x : Int32} {m : Mem} (hf : F_X8_part0 rec a0 μ = some (x, m)) : KC Y yX8_part0 cX8_part0 2 (some .boolean) (3 + (n + 1)) [.ref (sq Y 0), .int a0] μ (some (.int x)) m := by
  refine KC.Z RX8 [(0, .ref (sq Y 0)), (1, .int a0)] (by decide) rfl (Nat.le_of_ble_eq_true rfl) rfl (fun G Γ ret => ?_)
  unfold F_X8_part0 at hf
  refine g_aload_n Γ (pc := 0) 0 dX8_part0_0 rfl rfl ?_
  refine g_get Γ (pc := 1) (v := .int (μ 0 17)) dX8_part0_1 (M_obj hM) fr_X8_232 rfl ?_
  refine g_iconst Γ (pc := 4) (v := 2) dX8_part0_4 rfl ?_
  refine g_icmp_ne Γ (pc := 5) (tgt := 33) dX8_part0_5 rfl hf (fun hf => ?_) (fun hf => ?_)
  · refine g_aload_n Γ (pc := 33) 0 dX8_part0_33 rfl rfl ?_
    refine g_get Γ (pc := 34) (v := .int (μ 0 17)) dX8_part0_34 (M_obj hM) fr_X8_232 rfl ?_
    refine g_iconst Γ (pc := 37) (v := 1) dX8_part0_37 rfl ?_
    have J_84 : f_X8_part0_J84 rec a0 μ = some (x, m) → G 84 [(0, .ref (sq Y 0)), (1, .int a0)] [] μ := by
      intro hf
      unfold f_X8_part0_J84 at hf
      refine g_aload_n Γ (pc := 84) 0 dX8_part0_84 rfl rfl ?_
      refine g_bipush Γ (pc := 85) (v := 33) dX8_part0_85 rfl ?_
      obtain ⟨v1, h1, hf⟩ := bn1_i hf
      refine g_callVI Γ (pc := 87) (as := [.int 33]) (st := []) dX8_part0_87 (c_X8_isSign hM h1) (M_obj hM) rfl mi_X8_isSign mv_X8_isSign kM_X8_263 rfl ⟨rm_f _ _ _ (by decide), rm_l _ _ _ _ (by decide) (by decide)⟩ rfl (Nat.le_of_ble_eq_true rfl) ?_
      have J_145 : f_X8_part0_J145 rec a0 μ = some (x, m) → G 145 [(0, .ref (sq Y 0)), (1, .int a0)] [] μ := by
        intro hf
        unfold f_X8_part0_J145 at hf
        refine g_aload_n Γ (pc := 145) 0 dX8_part0_145 rfl rfl ?_
        refine g_bipush Γ (pc := 146) (v := 40) dX8_part0_146 rfl ?_
        obtain ⟨v2, h1, hf⟩ := bn1_i hf
        refine g_callVI Γ (pc := 148) (as := [.int 40]) (st := []) dX8_part0_148 (c_X8_isSign hM h1) (M_obj hM) rfl mi_X8_isSign mv_X8_isSign kM_X8_263 rfl ⟨rm_f _ _ _ (by decide), rm_l _ _ _ _ (by decide) (by decide)⟩ rfl (Nat.le_of_ble_eq_true rfl) ?_
        refine g_if_eq Γ (pc := 151) (tgt := 163) dX8_part0_151 rfl hf (fun hf => ?_) (fun hf => ?_)
        · refine g_iconst Γ (pc := 163) (v := 0) dX8_part0_163 rfl ?_
          exact rZk ret dX8_part0_164 (Or.inl rfl) hf
        · refine g_aload_n Γ (pc := 154) 0 dX8_part0_154 rfl rfl ?_
          refine g_get Γ (pc := 155) (v := .int (μ 0 20)) dX8_part0_155 (M_obj hM) fr_X8_293 rfl ?_
          refine g_bipush Γ (pc := 158) (v := 8) dX8_part0_158 rfl ?_
          refine g_icmp_ne Γ (pc := 160) (tgt := 165) dX8_part0_160 rfl hf (fun hf => ?_) (fun hf => ?_)
          · refine g_aload_n Γ (pc := 165) 0 dX8_part0_165 rfl rfl ?_
            refine g_dup Γ (pc := 166) dX8_part0_166 rfl ?_
            refine g_get Γ (pc := 167) (v := .int (μ 0 20)) dX8_part0_167 (M_obj hM) fr_X8_293 rfl ?_
            refine g_iconst Γ (pc := 170) (v := 1) dX8_part0_170 rfl ?_
            refine g_iadd Γ (pc := 171) dX8_part0_171 ?_
            refine g_put Γ (pc := 172) dX8_part0_172 (M_obj hM) fw_X8_293 (Nat.le_of_ble_eq_true rfl) rfl ?_
            refine g_nmm hf (fun m3 hf => ?_)
            refine g_aload_n Γ (pc := 175) 0 dX8_part0_175 rfl rfl ?_
            obtain ⟨m4, h1, hf⟩ := bn1_i hf
            refine g_callVV Γ (pc := 176) (as := []) (st := []) dX8_part0_176 (c_X8_nextToken hM h1) (M_obj hM) rfl mi_X8_nextToken mv_X8_nextToken kM_X8_266 rfl ⟨rm_f _ _ _ (by decide), rm_l _ _ _ _ (by decide) (by decide)⟩ rfl (Nat.le_of_ble_eq_true rfl) ?_
            refine g_aload_n Γ (pc := 179) 0 dX8_part0_179 rfl rfl ?_
            refine g_iload_n Γ (pc := 180) 1 dX8_part0_180 rfl rfl ?_
            obtain ⟨v5, m6, h1, hf⟩ := bn2_i hf
            refine g_callVI Γ (pc := 181) (as := [.int a0]) (st := []) dX8_part0_181 (hrec_X8_either h1) (M_obj hM) rfl mi_X8_either mv_X8_either kM_X8_296 rfl ⟨rm_fs _ _, rm_ls _ _ _ (by decide)⟩ rfl (Nat.le_of_ble_eq_true rfl) ?_
            refine g_if_eq Γ (pc := 184) (tgt := 196) dX8_part0_184 rfl hf (fun hf => ?_) (fun hf => ?_)
            · refine g_iconst Γ (pc := 196) (v := 0) dX8_part0_196 rfl ?_
              exact rZk ret dX8_part0_197 (Or.inl rfl) hf
            · refine g_aload_n Γ (pc := 187) 0 dX8_part0_187 rfl rfl ?_
              refine g_bipush Γ (pc := 188) (v := 41) dX8_part0_188 rfl ?_
              obtain ⟨v7, h1, hf⟩ := bn1_i hf
              refine g_callVI Γ (pc := 190) (as := [.int 41]) (st := []) dX8_part0_190 (c_X8_isSign hM h1) (M_obj hM) rfl mi_X8_isSign mv_X8_isSign kM_X8_263 rfl ⟨rm_f _ _ _ (by decide), rm_l _ _ _ _ (by decide) (by decide)⟩ rfl (Nat.le_of_ble_eq_true rfl) ?_
              refine g_if_ne Γ (pc := 193) (tgt := 198) dX8_part0_193 rfl hf (fun hf => ?_) (fun hf => ?_)
              · refine g_aload_n Γ (pc := 198) 0 dX8_part0_198 rfl rfl ?_
                refine g_dup Γ (pc := 199) dX8_part0_199 rfl ?_
                refine g_get Γ (pc := 200) (v := .int (m6 0 20)) dX8_part0_200 (M_obj hM) fr_X8_293 rfl ?_
                refine g_iconst Γ (pc := 203) (v := 1) dX8_part0_203 rfl ?_
                refine g_isub Γ (pc := 204) dX8_part0_204 ?_
                refine g_put Γ (pc := 205) dX8_part0_205 (M_obj hM) fw_X8_293 (Nat.le_of_ble_eq_true rfl) rfl ?_
                refine g_nmm hf (fun m8 hf => ?_)
                refine g_aload_n Γ (pc := 208) 0 dX8_part0_208 rfl rfl ?_
                obtain ⟨m9, h1, hf⟩ := bn1_i hf
                refine g_callVV Γ (pc := 209) (as := []) (st := []) dX8_part0_209 (c_X8_nextToken hM h1) (M_obj hM) rfl mi_X8_nextToken mv_X8_nextToken kM_X8_266 rfl ⟨rm_f _ _ _ (by decide), rm_l _ _ _ _ (by decide) (by decide)⟩ rfl (Nat.le_of_ble_eq_true rfl) ?_
                refine g_iconst Γ (pc := 212) (v := 1) dX8_part0_212 rfl ?_
                exact rZk ret dX8_part0_213 (Or.inr rfl) hf
              · refine g_iconst Γ (pc := 196) (v := 0) dX8_part0_196 rfl ?_
                exact rZk ret dX8_part0_197 (Or.inl rfl) hf
          · refine g_iconst Γ (pc := 163) (v := 0) dX8_part0_163 rfl ?_
            exact rZk ret dX8_part0_164 (Or.inl rfl) hf
      refine g_if_eq Γ (pc := 90) (tgt := 145) dX8_part0_90 rfl hf (fun hf => ?_) (fun hf => ?_)
      · refine g_sub Γ [0, 1] rfl ?_
        exact J_145 hf
      · refine g_aload_n Γ (pc := 93) 0 dX8_part0_93 rfl rfl ?_
        refine g_get Γ (pc := 94) (v := .int (μ 0 21)) dX8_part0_94 (M_obj hM) fr_X8_290 rfl ?_
        refine g_bipush Γ (pc := 97) (v := 8) dX8_part0_97 rfl ?_
        refine g_icmp_ge Γ (pc := 99) (tgt := 145) dX8_part0_99 rfl hf (fun hf => ?_) (fun hf => ?_)
        · refine g_sub Γ [0, 1] rfl ?_
          exact J_145 hf
        · refine g_aload_n Γ (pc := 102) 0 dX8_part0_102 rfl rfl ?_
          refine g_dup Γ (pc := 103) dX8_part0_103 rfl ?_
          refine g_get Γ (pc := 104) (v := .int (μ 0 21)) dX8_part0_104 (M_obj hM) fr_X8_290 rfl ?_
          refine g_iconst Γ (pc := 107) (v := 1) dX8_part0_107 rfl ?_
          refine g_iadd Γ (pc := 108) dX8_part0_108 ?_
          refine g_put Γ (pc := 109) dX8_part0_109 (M_obj hM) fw_X8_290 (Nat.le_of_ble_eq_true rfl) rfl ?_
          refine g_nmm hf (fun m10 hf => ?_)
          refine g_aload_n Γ (pc := 112) 0 dX8_part0_112 rfl rfl ?_
          obtain ⟨m11, h1, hf⟩ := bn1_i hf
          refine g_callVV Γ (pc := 113) (as := []) (st := []) dX8_part0_113 (c_X8_nextToken hM h1) (M_obj hM) rfl mi_X8_nextToken mv_X8_nextToken kM_X8_266 rfl ⟨rm_f _ _ _ (by decide), rm_l _ _ _ _ (by decide) (by decide)⟩ rfl (Nat.le_of_ble_eq_true rfl) ?_
          refine g_aload_n Γ (pc := 116) 0 dX8_part0_116 rfl rfl ?_
          refine g_iload_n Γ (pc := 117) 1 dX8_part0_117 rfl rfl ?_
          obtain ⟨v12, m13, h1, hf⟩ := bn2_i hf
          refine g_callVI Γ (pc := 118) (as := [.int a0]) (st := []) dX8_part0_118 (hrec_X8_part0 h1) (M_obj hM) rfl mi_X8_part0 mv_X8_part0 kM_X8_281 rfl ⟨rm_fs _ _, rm_ls _ _ _ (by decide)⟩ rfl (Nat.le_of_ble_eq_true rfl) ?_
          refine g_if_ne Γ (pc := 121) (tgt := 126) dX8_part0_121 rfl hf (fun hf => ?_) (fun hf => ?_)
          · refine g_aload_n Γ (pc := 126) 0 dX8_part0_126 rfl rfl ?_
            refine g_dup Γ (pc := 127) dX8_part0_127 rfl ?_
            refine g_get Γ (pc := 128) (v := .int (m13 0 21)) dX8_part0_128 (M_obj hM) fr_X8_290 rfl ?_
            refine g_iconst Γ (pc := 131) (v := 1) dX8_part0_131 rfl ?_
            refine g_isub Γ (pc := 132) dX8_part0_132 ?_
            refine g_put Γ (pc := 133) dX8_part0_133 (M_obj hM) fw_X8_290 (Nat.le_of_ble_eq_true rfl) rfl ?_
            refine g_nmm hf (fun m14 hf => ?_)
            refine g_aload_n Γ (pc := 136) 0 dX8_part0_136 rfl rfl ?_
            refine g_iconst Γ (pc := 137) (v := 2) dX8_part0_137 rfl ?_
            refine g_bipush Γ (pc := 138) (v := 33) dX8_part0_138 rfl ?_
            obtain ⟨m15, h1, hf⟩ := bn1_i hf
            refine g_callVV Γ (pc := 140) (as := [.int 2, .int 33]) (st := []) dX8_part0_140 (c_X8_step hM h1) (M_obj hM) rfl mi_X8_step mv_X8_step kM_X8_269 rfl ⟨rm_f _ _ _ (by decide), rm_l _ _ _ _ (by decide) (by decide)⟩ rfl (Nat.le_of_ble_eq_true rfl) ?_
            refine g_iconst Γ (pc := 143) (v := 1) dX8_part0_143 rfl ?_
            exact rZk ret dX8_part0_144 (Or.inr rfl) hf
          · refine g_iconst Γ (pc := 124) (v := 0) dX8_part0_124 rfl ?_
            exact rZk ret dX8_part0_125 (Or.inl rfl) hf
    refine g_icmp_ne Γ (pc := 38) (tgt := 84) dX8_part0_38 rfl hf (fun hf => ?_) (fun hf => ?_)
    · refine g_sub Γ [0, 1] rfl ?_
      exact J_84 hf
    · refine g_aload_n Γ (pc := 41) 0 dX8_part0_41 rfl rfl ?_
      refine g_get Γ (pc := 42) (v := .int (μ 0 19)) dX8_part0_42 (M_obj hM) fr_X8_241 rfl ?_
      refine g_if_eq Γ (pc := 45) (tgt := 84) dX8_part0_45 rfl hf (fun hf => ?_) (fun hf => ?_)
      · refine g_sub Γ [0, 1] rfl ?_
        exact J_84 hf
      · refine g_iload_n Γ (pc := 48) 1 dX8_part0_48 rfl rfl ?_
        refine g_aload_n Γ (pc := 49) 0 dX8_part0_49 rfl rfl ?_
        refine g_get Γ (pc := 50) (v := .int (μ 0 19)) dX8_part0_50 (M_obj hM) fr_X8_241 rfl ?_
        obtain ⟨v16, h1, hf⟩ := bn1_i hf
        refine g_callSI Γ (pc := 53) (as := [.int a0, .int (μ 0 19)]) (st := []) dX8_part0_53 (c_X8_isName h1) mi_X8_isName ms_X8_isName kM_X8_287 rfl ⟨rm_f _ _ _ (by decide), rm_l _ _ _ _ (by decide) (by decide)⟩ rfl (Nat.le_of_ble_eq_true rfl) ?_
        refine g_if_eq Γ (pc := 56) (tgt := 84) dX8_part0_56 rfl hf (fun hf => ?_) (fun hf => ?_)
        · refine g_sub Γ [0, 1] rfl ?_
          exact J_84 hf
        · refine g_aload_n Γ (pc := 59) 0 dX8_part0_59 rfl rfl ?_
          refine g_iconst Γ (pc := 60) (v := 1) dX8_part0_60 rfl ?_
          refine g_aload_n Γ (pc := 61) 0 dX8_part0_61 rfl rfl ?_
          refine g_get Γ (pc := 62) (v := .int (μ 0 19)) dX8_part0_62 (M_obj hM) fr_X8_241 rfl ?_
          obtain ⟨m17, h1, hf⟩ := bn1_i hf
          refine g_callVV Γ (pc := 65) (as := [.int 1, .int (μ 0 19)]) (st := []) dX8_part0_65 (c_X8_step hM h1) (M_obj hM) rfl mi_X8_step mv_X8_step kM_X8_269 rfl ⟨rm_f _ _ _ (by decide), rm_l _ _ _ _ (by decide) (by decide)⟩ rfl (Nat.le_of_ble_eq_true rfl) ?_
          refine g_aload_n Γ (pc := 68) 0 dX8_part0_68 rfl rfl ?_
          refine g_dup Γ (pc := 69) dX8_part0_69 rfl ?_
          refine g_get Γ (pc := 70) (v := .int (m17 0 24)) dX8_part0_70 (M_obj hM) fr_X8_284 rfl ?_
          refine g_iconst Γ (pc := 73) (v := 1) dX8_part0_73 rfl ?_
          refine g_iadd Γ (pc := 74) dX8_part0_74 ?_
          refine g_put Γ (pc := 75) dX8_part0_75 (M_obj hM) fw_X8_284 (Nat.le_of_ble_eq_true rfl) rfl ?_
          refine g_nmm hf (fun m18 hf => ?_)
          refine g_aload_n Γ (pc := 78) 0 dX8_part0_78 rfl rfl ?_
          obtain ⟨m19, h1, hf⟩ := bn1_i hf
          refine g_callVV Γ (pc := 79) (as := []) (st := []) dX8_part0_79 (c_X8_nextToken hM h1) (M_obj hM) rfl mi_X8_nextToken mv_X8_nextToken kM_X8_266 rfl ⟨rm_f _ _ _ (by decide), rm_l _ _ _ _ (by decide) (by decide)⟩ rfl (Nat.le_of_ble_eq_true rfl) ?_
          refine g_iconst Γ (pc := 82) (v := 1) dX8_part0_82 rfl ?_
          exact rZk ret dX8_part0_83 (Or.inr rfl) hf
  · refine g_aload_n Γ (pc := 8) 0 dX8_part0_8 rfl rfl ?_
    refine g_iconst Γ (pc := 9) (v := 0) dX8_part0_9 rfl ?_
    refine g_aload_n Γ (pc := 10) 0 dX8_part0_10 rfl rfl ?_
    refine g_get Γ (pc := 11) (v := .int (μ 0 18)) dX8_part0_11 (M_obj hM) fr_X8_247 rfl ?_
    obtain ⟨m20, h1, hf⟩ := bn1_i hf
    refine g_callVV Γ (pc := 14) (as := [.int 0, .int (μ 0 18)]) (st := []) dX8_part0_14 (c_X8_step hM h1) (M_obj hM) rfl mi_X8_step mv_X8_step kM_X8_269 rfl ⟨rm_f _ _ _ (by decide), rm_l _ _ _ _ (by decide) (by decide)⟩ rfl (Nat.le_of_ble_eq_true rfl) ?_
    refine g_aload_n Γ (pc := 17) 0 dX8_part0_17 rfl rfl ?_
    refine g_dup Γ (pc := 18) dX8_part0_18 rfl ?_
    refine g_get Γ (pc := 19) (v := .int (m20 0 24)) dX8_part0_19 (M_obj hM) fr_X8_284 rfl ?_
    refine g_iconst Γ (pc := 22) (v := 1) dX8_part0_22 rfl ?_
    refine g_iadd Γ (pc := 23) dX8_part0_23 ?_
    refine g_put Γ (pc := 24) dX8_part0_24 (M_obj hM) fw_X8_284 (Nat.le_of_ble_eq_true rfl) rfl ?_
    refine g_nmm hf (fun m21 hf => ?_)
    refine g_aload_n Γ (pc := 27) 0 dX8_part0_27 rfl rfl ?_
    obtain ⟨m22, h1, hf⟩ := bn1_i hf
    refine g_callVV Γ (pc := 28) (as := []) (st := []) dX8_part0_28 (c_X8_nextToken hM h1) (M_obj hM) rfl mi_X8_nextToken mv_X8_nextToken kM_X8_266 rfl ⟨rm_f _ _ _ (by decide), rm_l _ _ _ _ (by decide) (by decide)⟩ rfl (Nat.le_of_ble_eq_true rfl) ?_
    refine g_iconst Γ (pc := 31) (v := 1) dX8_part0_31 rfl ?_
    exact rZk ret dX8_part0_32 (Or.inr rfl) hf
def f_X8_term_K10_45 (m3 : Mem) : Option (Int32 × Mem) :=
  some (0, m3)
def f_X8_term_K10_56 (m4 : Mem) : Option (Int32 × Mem) :=
  some (1, m4)
def f_X8_term_J28 (rec : Nat → Int32 → Mem → Option (Int32 × Mem)) (a0 : Int32) (m5 : Mem) : Option (Mem ⊕ (Mem ⊕ Mem)) :=
  bn1 (f_X8_nextToken m5) fun m7 =>
  bn2 (rec 5 a0 m7) fun v8 m9 =>
  if v8 = 0 then
    some (.inr (.inl m9))
  else
    bn1 (f_X8_step 2 (m5 0 19) m9) fun m10 =>
    some (.inl m10)
def f_X8_term_L10 (rec : Nat → Int32 → Mem → Option (Int32 × Mem)) (a0 : Int32) (m5 : Mem) : Option (Mem ⊕ (Mem ⊕ Mem)) :=
  bn1 (f_X8_isSign 42 m5) fun v6 =>
  if v6 = 0 then
    bn1 (f_X8_isSign 47 m5) fun v11 =>
    if v11 = 0 then
      some (.inr (.inr m5))
    else
      f_X8_term_J28 rec a0 m5
  else
    f_X8_term_J28 rec a0 m5
def F_X8_term (rec : Nat → Int32 → Mem → Option (Int32 × Mem)) (a0 : Int32) (μ : Mem) : Option (Int32 × Mem) :=
  bn2 (rec 5 a0 μ) fun v1 m2 =>
  if v1 = 0 then
    some (0, m2)
  else
    bn1 (lpF (fun v => f_X8_term_L10 rec a0 v) 4000 m2) (fun x => cs2 x (fun y => f_X8_term_K10_45 y) (fun x0 => f_X8_term_K10_56 x0))
set_option maxRecDepth 100000 in
set_option maxHeartbeats 4000000 in
theorem o_X8_term {Y : SYS} (hM : IsM Y) {rec : Nat → Int32 → Mem → Option (Int32 × Mem)} {n : Nat} (hrec_X8_part0 : ∀ {a0 : Int32} {μ m : Mem} {x : Int32}, rec 5 a0 μ = some (x, m) → KC Y yX8_part0 cX8_part0 2 (some .boolean) (3 + n) [.ref (sq Y 0), .int a0] μ (some (.int x)) m) {a0 : Int32} {μ : Mem} {x : Int32} {m : Mem} (hf : F_X8_term rec a0 μ = some (x, m)) : KC Y yX8_term cX8_term 3 (some .boolean) (3 + (n + 1)) [.ref (sq Y 0), .int a0] μ (some (.int x)) m := by
  refine KC.Z RX8 [(0, .ref (sq Y 0)), (1, .int a0)] (by decide) rfl (Nat.le_of_ble_eq_true rfl) rfl (fun G Γ ret => ?_)
  unfold F_X8_term at hf
  refine g_aload_n Γ (pc := 0) 0 dX8_term_0 rfl rfl ?_
  refine g_iload_n Γ (pc := 1) 1 dX8_term_1 rfl rfl ?_
  obtain ⟨v1, m2, h1, hf⟩ := bn2_i hf
  refine g_callVI Γ (pc := 2) (as := [.int a0]) (st := []) dX8_term_2 (hrec_X8_part0 h1) (M_obj hM) rfl mi_X8_part0 mv_X8_part0 kM_X8_281 rfl ⟨rm_fs _ _, rm_ls _ _ _ (by decide)⟩ rfl (Nat.le_of_ble_eq_true rfl) ?_
  refine g_if_ne Γ (pc := 5) (tgt := 10) dX8_term_5 rfl hf (fun hf => ?_) (fun hf => ?_)
  · have K_10_45 : ∀ (m3 : Mem), f_X8_term_K10_45 m3 = some (x, m) → G 45 [] [] m3 := by
      intro m3 hf
      unfold f_X8_term_K10_45 at hf
      refine g_iconst Γ (pc := 45) (v := 0) dX8_term_45 rfl ?_
      exact rZk ret dX8_term_46 (Or.inl rfl) hf
    have K_10_56 : ∀ (m4 : Mem), f_X8_term_K10_56 m4 = some (x, m) → G 56 [] [] m4 := by
      intro m4 hf
      unfold f_X8_term_K10_56 at hf
      refine g_iconst Γ (pc := 56) (v := 1) dX8_term_56 rfl ?_
      exact rZk ret dX8_term_57 (Or.inr rfl) hf
    refine g_sub Γ [0, 1] rfl ?_
    refine lpF_s (P := fun (v : Mem) => G 10 [(0, .ref (sq Y 0)), (1, .int a0)] [] v) hf (fun v z1 hf kI1 kX1 => ?_)
    obtain ⟨m5, rfl⟩ : ∃ w, w = v := ⟨v, rfl⟩
    replace hf : f_X8_term_L10 rec a0 m5 = some z1 := hf
    show G 10 [(0, .ref (sq Y 0)), (1, .int a0)] [] m5
    unfold f_X8_term_L10 at hf
    refine g_aload_n Γ (pc := 10) 0 dX8_term_10 rfl rfl ?_
    refine g_bipush Γ (pc := 11) (v := 42) dX8_term_11 rfl ?_
    obtain ⟨v6, h1, hf⟩ := bn1_i hf
    refine g_callVI Γ (pc := 13) (as := [.int 42]) (st := []) dX8_term_13 (c_X8_isSign hM h1) (M_obj hM) rfl mi_X8_isSign mv_X8_isSign kM_X8_263 rfl ⟨rm_f _ _ _ (by decide), rm_l _ _ _ _ (by decide) (by decide)⟩ rfl (Nat.le_of_ble_eq_true rfl) ?_
    have J_28 : f_X8_term_J28 rec a0 m5 = some z1 → G 28 [(0, .ref (sq Y 0)), (1, .int a0)] [] m5 := by
      intro hf
      unfold f_X8_term_J28 at hf
      refine g_aload_n Γ (pc := 28) 0 dX8_term_28 rfl rfl ?_
      refine g_get Γ (pc := 29) (v := .int (m5 0 19)) dX8_term_29 (M_obj hM) fr_X8_241 rfl ?_
      refine g_istore_n Γ (pc := 32) (lv' := [(2, .int (m5 0 19)), (0, .ref (sq Y 0)), (1, .int a0)]) dX8_term_32 rfl (by decide) rfl ?_
      refine g_aload_n Γ (pc := 33) 1 dX8_term_33 rfl rfl ?_
      obtain ⟨m7, h1, hf⟩ := bn1_i hf
      refine g_callVV Γ (pc := 34) (as := []) (st := []) dX8_term_34 (c_X8_nextToken hM h1) (M_obj hM) rfl mi_X8_nextToken mv_X8_nextToken kM_X8_266 rfl ⟨rm_f _ _ _ (by decide), rm_l _ _ _ _ (by decide) (by decide)⟩ rfl (Nat.le_of_ble_eq_true rfl) ?_
      refine g_aload_n Γ (pc := 37) 1 dX8_term_37 rfl rfl ?_
      refine g_iload_n Γ (pc := 38) 2 dX8_term_38 rfl rfl ?_
      obtain ⟨v8, m9, h1, hf⟩ := bn2_i hf
      refine g_callVI Γ (pc := 39) (as := [.int a0]) (st := []) dX8_term_39 (hrec_X8_part0 h1) (M_obj hM) rfl mi_X8_part0 mv_X8_part0 kM_X8_281 rfl ⟨rm_fs _ _, rm_ls _ _ _ (by decide)⟩ rfl (Nat.le_of_ble_eq_true rfl) ?_
      refine g_if_ne Γ (pc := 42) (tgt := 47) dX8_term_42 rfl hf (fun hf => ?_) (fun hf => ?_)
      · refine g_aload_n Γ (pc := 47) 1 dX8_term_47 rfl rfl ?_
        refine g_iconst Γ (pc := 48) (v := 2) dX8_term_48 rfl ?_
        refine g_iload_n Γ (pc := 49) 0 dX8_term_49 rfl rfl ?_
        obtain ⟨m10, h1, hf⟩ := bn1_i hf
        refine g_callVV Γ (pc := 50) (as := [.int 2, .int (m5 0 19)]) (st := []) dX8_term_50 (c_X8_step hM h1) (M_obj hM) rfl mi_X8_step mv_X8_step kM_X8_269 rfl ⟨rm_f _ _ _ (by decide), rm_l _ _ _ _ (by decide) (by decide)⟩ rfl (Nat.le_of_ble_eq_true rfl) ?_
        refine g_goto Γ (pc := 53) (tgt := 10) dX8_term_53 rfl ?_
        refine g_sub Γ [1, 2] rfl ?_
        exact kI1 m10 (Option.some.inj hf).symm
      · refine g_sub Γ [] rfl ?_
        exact K_10_45 m9 (kX1 (.inl m9) (Option.some.inj hf).symm)
    refine g_if_ne Γ (pc := 16) (tgt := 28) dX8_term_16 rfl hf (fun hf => ?_) (fun hf => ?_)
    · refine g_sub Γ [0, 1] rfl ?_
      exact J_28 hf
    · refine g_aload_n Γ (pc := 19) 0 dX8_term_19 rfl rfl ?_
      refine g_bipush Γ (pc := 20) (v := 47) dX8_term_20 rfl ?_
      obtain ⟨v11, h1, hf⟩ := bn1_i hf
      refine g_callVI Γ (pc := 22) (as := [.int 47]) (st := []) dX8_term_22 (c_X8_isSign hM h1) (M_obj hM) rfl mi_X8_isSign mv_X8_isSign kM_X8_263 rfl ⟨rm_f _ _ _ (by decide), rm_l _ _ _ _ (by decide) (by decide)⟩ rfl (Nat.le_of_ble_eq_true rfl) ?_
      refine g_if_eq Γ (pc := 25) (tgt := 56) dX8_term_25 rfl hf (fun hf => ?_) (fun hf => ?_)
      · refine g_sub Γ [] rfl ?_
        exact K_10_56 m5 (kX1 (.inr m5) (Option.some.inj hf).symm)
      · refine g_sub Γ [0, 1] rfl ?_
        exact J_28 hf
  · refine g_iconst Γ (pc := 8) (v := 0) dX8_term_8 rfl ?_
    exact rZk ret dX8_term_9 (Or.inl rfl) hf
def f_X8_sum_K10_45 (m3 : Mem) : Option (Int32 × Mem) :=
  some (0, m3)
def f_X8_sum_K10_56 (m4 : Mem) : Option (Int32 × Mem) :=
  some (1, m4)
def f_X8_sum_J28 (rec : Nat → Int32 → Mem → Option (Int32 × Mem)) (a0 : Int32) (m5 : Mem) : Option (Mem ⊕ (Mem ⊕ Mem)) :=
  bn1 (f_X8_nextToken m5) fun m7 =>
  bn2 (rec 4 a0 m7) fun v8 m9 =>
  if v8 = 0 then
    some (.inr (.inl m9))
  else
    bn1 (f_X8_step 2 (m5 0 19) m9) fun m10 =>
    some (.inl m10)
def f_X8_sum_L10 (rec : Nat → Int32 → Mem → Option (Int32 × Mem)) (a0 : Int32) (m5 : Mem) : Option (Mem ⊕ (Mem ⊕ Mem)) :=
  bn1 (f_X8_isSign 43 m5) fun v6 =>
  if v6 = 0 then
    bn1 (f_X8_isSign 45 m5) fun v11 =>
    if v11 = 0 then
      some (.inr (.inr m5))
    else
      f_X8_sum_J28 rec a0 m5
  else
    f_X8_sum_J28 rec a0 m5
def F_X8_sum (rec : Nat → Int32 → Mem → Option (Int32 × Mem)) (a0 : Int32) (μ : Mem) : Option (Int32 × Mem) :=
  bn2 (rec 4 a0 μ) fun v1 m2 =>
  if v1 = 0 then
    some (0, m2)
  else
    bn1 (lpF (fun v => f_X8_sum_L10 rec a0 v) 4000 m2) (fun x => cs2 x (fun y => f_X8_sum_K10_45 y) (fun x0 => f_X8_sum_K10_56 x0))
set_option maxRecDepth 100000 in
set_option maxHeartbeats 4000000 in
theorem o_X8_sum {Y : SYS} (hM : IsM Y) {rec : Nat → Int32 → Mem → Option (Int32 × Mem)} {n : Nat} (hrec_X8_term : ∀ {a0 : Int32} {μ m : Mem} {x : Int32}, rec 4 a0 μ = some (x, m) → KC Y yX8_term cX8_term 3 (some .boolean) (3 + n) [.ref (sq Y 0), .int a0] μ (some (.int x)) m) {a0 : Int32} {μ : Mem} {x : Int32} {m : Mem} (hf : F_X8_sum rec a0 μ = some (x, m)) : KC Y yX8_sum cX8_sum 3 (some .boolean) (3 + (n + 1)) [.ref (sq Y 0), .int a0] μ (some (.int x)) m := by
  refine KC.Z RX8 [(0, .ref (sq Y 0)), (1, .int a0)] (by decide) rfl (Nat.le_of_ble_eq_true rfl) rfl (fun G Γ ret => ?_)
  unfold F_X8_sum at hf
  refine g_aload_n Γ (pc := 0) 0 dX8_sum_0 rfl rfl ?_
  refine g_iload_n Γ (pc := 1) 1 dX8_sum_1 rfl rfl ?_
  obtain ⟨v1, m2, h1, hf⟩ := bn2_i hf
  refine g_callVI Γ (pc := 2) (as := [.int a0]) (st := []) dX8_sum_2 (hrec_X8_term h1) (M_obj hM) rfl mi_X8_term mv_X8_term kM_X8_278 rfl ⟨rm_fs _ _, rm_ls _ _ _ (by decide)⟩ rfl (Nat.le_of_ble_eq_true rfl) ?_
  refine g_if_ne Γ (pc := 5) (tgt := 10) dX8_sum_5 rfl hf (fun hf => ?_) (fun hf => ?_)
  · have K_10_45 : ∀ (m3 : Mem), f_X8_sum_K10_45 m3 = some (x, m) → G 45 [] [] m3 := by
      intro m3 hf
      unfold f_X8_sum_K10_45 at hf
      refine g_iconst Γ (pc := 45) (v := 0) dX8_sum_45 rfl ?_
      exact rZk ret dX8_sum_46 (Or.inl rfl) hf
    have K_10_56 : ∀ (m4 : Mem), f_X8_sum_K10_56 m4 = some (x, m) → G 56 [] [] m4 := by
      intro m4 hf
      unfold f_X8_sum_K10_56 at hf
      refine g_iconst Γ (pc := 56) (v := 1) dX8_sum_56 rfl ?_
      exact rZk ret dX8_sum_57 (Or.inr rfl) hf
    refine g_sub Γ [0, 1] rfl ?_
    refine lpF_s (P := fun (v : Mem) => G 10 [(0, .ref (sq Y 0)), (1, .int a0)] [] v) hf (fun v z1 hf kI1 kX1 => ?_)
    obtain ⟨m5, rfl⟩ : ∃ w, w = v := ⟨v, rfl⟩
    replace hf : f_X8_sum_L10 rec a0 m5 = some z1 := hf
    show G 10 [(0, .ref (sq Y 0)), (1, .int a0)] [] m5
    unfold f_X8_sum_L10 at hf
    refine g_aload_n Γ (pc := 10) 0 dX8_sum_10 rfl rfl ?_
    refine g_bipush Γ (pc := 11) (v := 43) dX8_sum_11 rfl ?_
    obtain ⟨v6, h1, hf⟩ := bn1_i hf
    refine g_callVI Γ (pc := 13) (as := [.int 43]) (st := []) dX8_sum_13 (c_X8_isSign hM h1) (M_obj hM) rfl mi_X8_isSign mv_X8_isSign kM_X8_263 rfl ⟨rm_f _ _ _ (by decide), rm_l _ _ _ _ (by decide) (by decide)⟩ rfl (Nat.le_of_ble_eq_true rfl) ?_
    have J_28 : f_X8_sum_J28 rec a0 m5 = some z1 → G 28 [(0, .ref (sq Y 0)), (1, .int a0)] [] m5 := by
      intro hf
      unfold f_X8_sum_J28 at hf
      refine g_aload_n Γ (pc := 28) 0 dX8_sum_28 rfl rfl ?_
      refine g_get Γ (pc := 29) (v := .int (m5 0 19)) dX8_sum_29 (M_obj hM) fr_X8_241 rfl ?_
      refine g_istore_n Γ (pc := 32) (lv' := [(2, .int (m5 0 19)), (0, .ref (sq Y 0)), (1, .int a0)]) dX8_sum_32 rfl (by decide) rfl ?_
      refine g_aload_n Γ (pc := 33) 1 dX8_sum_33 rfl rfl ?_
      obtain ⟨m7, h1, hf⟩ := bn1_i hf
      refine g_callVV Γ (pc := 34) (as := []) (st := []) dX8_sum_34 (c_X8_nextToken hM h1) (M_obj hM) rfl mi_X8_nextToken mv_X8_nextToken kM_X8_266 rfl ⟨rm_f _ _ _ (by decide), rm_l _ _ _ _ (by decide) (by decide)⟩ rfl (Nat.le_of_ble_eq_true rfl) ?_
      refine g_aload_n Γ (pc := 37) 1 dX8_sum_37 rfl rfl ?_
      refine g_iload_n Γ (pc := 38) 2 dX8_sum_38 rfl rfl ?_
      obtain ⟨v8, m9, h1, hf⟩ := bn2_i hf
      refine g_callVI Γ (pc := 39) (as := [.int a0]) (st := []) dX8_sum_39 (hrec_X8_term h1) (M_obj hM) rfl mi_X8_term mv_X8_term kM_X8_278 rfl ⟨rm_fs _ _, rm_ls _ _ _ (by decide)⟩ rfl (Nat.le_of_ble_eq_true rfl) ?_
      refine g_if_ne Γ (pc := 42) (tgt := 47) dX8_sum_42 rfl hf (fun hf => ?_) (fun hf => ?_)
      · refine g_aload_n Γ (pc := 47) 1 dX8_sum_47 rfl rfl ?_
        refine g_iconst Γ (pc := 48) (v := 2) dX8_sum_48 rfl ?_
        refine g_iload_n Γ (pc := 49) 0 dX8_sum_49 rfl rfl ?_
        obtain ⟨m10, h1, hf⟩ := bn1_i hf
        refine g_callVV Γ (pc := 50) (as := [.int 2, .int (m5 0 19)]) (st := []) dX8_sum_50 (c_X8_step hM h1) (M_obj hM) rfl mi_X8_step mv_X8_step kM_X8_269 rfl ⟨rm_f _ _ _ (by decide), rm_l _ _ _ _ (by decide) (by decide)⟩ rfl (Nat.le_of_ble_eq_true rfl) ?_
        refine g_goto Γ (pc := 53) (tgt := 10) dX8_sum_53 rfl ?_
        refine g_sub Γ [1, 2] rfl ?_
        exact kI1 m10 (Option.some.inj hf).symm
      · refine g_sub Γ [] rfl ?_
        exact K_10_45 m9 (kX1 (.inl m9) (Option.some.inj hf).symm)
    refine g_if_ne Γ (pc := 16) (tgt := 28) dX8_sum_16 rfl hf (fun hf => ?_) (fun hf => ?_)
    · refine g_sub Γ [0, 1] rfl ?_
      exact J_28 hf
    · refine g_aload_n Γ (pc := 19) 0 dX8_sum_19 rfl rfl ?_
      refine g_bipush Γ (pc := 20) (v := 45) dX8_sum_20 rfl ?_
      obtain ⟨v11, h1, hf⟩ := bn1_i hf
      refine g_callVI Γ (pc := 22) (as := [.int 45]) (st := []) dX8_sum_22 (c_X8_isSign hM h1) (M_obj hM) rfl mi_X8_isSign mv_X8_isSign kM_X8_263 rfl ⟨rm_f _ _ _ (by decide), rm_l _ _ _ _ (by decide) (by decide)⟩ rfl (Nat.le_of_ble_eq_true rfl) ?_
      refine g_if_eq Γ (pc := 25) (tgt := 56) dX8_sum_25 rfl hf (fun hf => ?_) (fun hf => ?_)
      · refine g_sub Γ [] rfl ?_
        exact K_10_56 m5 (kX1 (.inr m5) (Option.some.inj hf).symm)
      · refine g_sub Γ [0, 1] rfl ?_
        exact J_28 hf
  · refine g_iconst Γ (pc := 8) (v := 0) dX8_sum_8 rfl ?_
    exact rZk ret dX8_sum_9 (Or.inl rfl) hf
def f_X8_test_J37 (rec : Nat → Int32 → Mem → Option (Int32 × Mem)) (a0 : Int32) (m2 : Mem) : Option (Int32 × Mem) :=
  bn1 (f_X8_nextToken m2) fun m4 =>
  bn2 (rec 3 a0 m4) fun v5 m6 =>
  if v5 = 0 then
    some (0, m6)
  else
    bn1 (f_X8_step 2 (m2 0 19) m6) fun m7 =>
    some (1, m7)
def F_X8_test (rec : Nat → Int32 → Mem → Option (Int32 × Mem)) (a0 : Int32) (μ : Mem) : Option (Int32 × Mem) :=
  bn2 (rec 3 a0 μ) fun v1 m2 =>
  if v1 = 0 then
    some (0, m2)
  else
    bn1 (f_X8_isSign 60 m2) fun v3 =>
    if v3 = 0 then
      bn1 (f_X8_isSign 61 m2) fun v8 =>
      if v8 = 0 then
        bn1 (f_X8_isSign 62 m2) fun v9 =>
        if v9 = 0 then
          some (1, m2)
        else
          f_X8_test_J37 rec a0 m2
      else
        f_X8_test_J37 rec a0 m2
    else
      f_X8_test_J37 rec a0 m2
set_option maxRecDepth 100000 in
set_option maxHeartbeats 4000000 in
theorem o_X8_test {Y : SYS} (hM : IsM Y) {rec : Nat → Int32 → Mem → Option (Int32 × Mem)} {n : Nat} (hrec_X8_sum : ∀ {a0 : Int32} {μ m : Mem} {x : Int32}, rec 3 a0 μ = some (x, m) → KC Y yX8_sum cX8_sum 3 (some .boolean) (3 + n) [.ref (sq Y 0), .int a0] μ (some (.int x)) m) {a0 : Int32} {μ : Mem} {x : Int32} {m : Mem} (hf : F_X8_test rec a0 μ = some (x, m)) : KC Y yX8_test cX8_test 3 (some .boolean) (3 + (n + 1)) [.ref (sq Y 0), .int a0] μ (some (.int x)) m := by
  refine KC.Z RX8 [(0, .ref (sq Y 0)), (1, .int a0)] (by decide) rfl (Nat.le_of_ble_eq_true rfl) rfl (fun G Γ ret => ?_)
  unfold F_X8_test at hf
  refine g_aload_n Γ (pc := 0) 0 dX8_test_0 rfl rfl ?_
  refine g_iload_n Γ (pc := 1) 1 dX8_test_1 rfl rfl ?_
  obtain ⟨v1, m2, h1, hf⟩ := bn2_i hf
  refine g_callVI Γ (pc := 2) (as := [.int a0]) (st := []) dX8_test_2 (hrec_X8_sum h1) (M_obj hM) rfl mi_X8_sum mv_X8_sum kM_X8_275 rfl ⟨rm_fs _ _, rm_ls _ _ _ (by decide)⟩ rfl (Nat.le_of_ble_eq_true rfl) ?_
  refine g_if_ne Γ (pc := 5) (tgt := 10) dX8_test_5 rfl hf (fun hf => ?_) (fun hf => ?_)
  · refine g_aload_n Γ (pc := 10) 0 dX8_test_10 rfl rfl ?_
    refine g_bipush Γ (pc := 11) (v := 60) dX8_test_11 rfl ?_
    obtain ⟨v3, h1, hf⟩ := bn1_i hf
    refine g_callVI Γ (pc := 13) (as := [.int 60]) (st := []) dX8_test_13 (c_X8_isSign hM h1) (M_obj hM) rfl mi_X8_isSign mv_X8_isSign kM_X8_263 rfl ⟨rm_f _ _ _ (by decide), rm_l _ _ _ _ (by decide) (by decide)⟩ rfl (Nat.le_of_ble_eq_true rfl) ?_
    have J_37 : f_X8_test_J37 rec a0 m2 = some (x, m) → G 37 [(0, .ref (sq Y 0)), (1, .int a0)] [] m2 := by
      intro hf
      unfold f_X8_test_J37 at hf
      refine g_aload_n Γ (pc := 37) 0 dX8_test_37 rfl rfl ?_
      refine g_get Γ (pc := 38) (v := .int (m2 0 19)) dX8_test_38 (M_obj hM) fr_X8_241 rfl ?_
      refine g_istore_n Γ (pc := 41) (lv' := [(2, .int (m2 0 19)), (0, .ref (sq Y 0)), (1, .int a0)]) dX8_test_41 rfl (by decide) rfl ?_
      refine g_aload_n Γ (pc := 42) 1 dX8_test_42 rfl rfl ?_
      obtain ⟨m4, h1, hf⟩ := bn1_i hf
      refine g_callVV Γ (pc := 43) (as := []) (st := []) dX8_test_43 (c_X8_nextToken hM h1) (M_obj hM) rfl mi_X8_nextToken mv_X8_nextToken kM_X8_266 rfl ⟨rm_f _ _ _ (by decide), rm_l _ _ _ _ (by decide) (by decide)⟩ rfl (Nat.le_of_ble_eq_true rfl) ?_
      refine g_aload_n Γ (pc := 46) 1 dX8_test_46 rfl rfl ?_
      refine g_iload_n Γ (pc := 47) 2 dX8_test_47 rfl rfl ?_
      obtain ⟨v5, m6, h1, hf⟩ := bn2_i hf
      refine g_callVI Γ (pc := 48) (as := [.int a0]) (st := []) dX8_test_48 (hrec_X8_sum h1) (M_obj hM) rfl mi_X8_sum mv_X8_sum kM_X8_275 rfl ⟨rm_fs _ _, rm_ls _ _ _ (by decide)⟩ rfl (Nat.le_of_ble_eq_true rfl) ?_
      refine g_if_ne Γ (pc := 51) (tgt := 56) dX8_test_51 rfl hf (fun hf => ?_) (fun hf => ?_)
      · refine g_aload_n Γ (pc := 56) 1 dX8_test_56 rfl rfl ?_
        refine g_iconst Γ (pc := 57) (v := 2) dX8_test_57 rfl ?_
        refine g_iload_n Γ (pc := 58) 0 dX8_test_58 rfl rfl ?_
        obtain ⟨m7, h1, hf⟩ := bn1_i hf
        refine g_callVV Γ (pc := 59) (as := [.int 2, .int (m2 0 19)]) (st := []) dX8_test_59 (c_X8_step hM h1) (M_obj hM) rfl mi_X8_step mv_X8_step kM_X8_269 rfl ⟨rm_f _ _ _ (by decide), rm_l _ _ _ _ (by decide) (by decide)⟩ rfl (Nat.le_of_ble_eq_true rfl) ?_
        refine g_iconst Γ (pc := 62) (v := 1) dX8_test_62 rfl ?_
        exact rZk ret dX8_test_63 (Or.inr rfl) hf
      · refine g_iconst Γ (pc := 54) (v := 0) dX8_test_54 rfl ?_
        exact rZk ret dX8_test_55 (Or.inl rfl) hf
    refine g_if_ne Γ (pc := 16) (tgt := 37) dX8_test_16 rfl hf (fun hf => ?_) (fun hf => ?_)
    · refine g_sub Γ [0, 1] rfl ?_
      exact J_37 hf
    · refine g_aload_n Γ (pc := 19) 0 dX8_test_19 rfl rfl ?_
      refine g_bipush Γ (pc := 20) (v := 61) dX8_test_20 rfl ?_
      obtain ⟨v8, h1, hf⟩ := bn1_i hf
      refine g_callVI Γ (pc := 22) (as := [.int 61]) (st := []) dX8_test_22 (c_X8_isSign hM h1) (M_obj hM) rfl mi_X8_isSign mv_X8_isSign kM_X8_263 rfl ⟨rm_f _ _ _ (by decide), rm_l _ _ _ _ (by decide) (by decide)⟩ rfl (Nat.le_of_ble_eq_true rfl) ?_
      refine g_if_ne Γ (pc := 25) (tgt := 37) dX8_test_25 rfl hf (fun hf => ?_) (fun hf => ?_)
      · refine g_sub Γ [0, 1] rfl ?_
        exact J_37 hf
      · refine g_aload_n Γ (pc := 28) 0 dX8_test_28 rfl rfl ?_
        refine g_bipush Γ (pc := 29) (v := 62) dX8_test_29 rfl ?_
        obtain ⟨v9, h1, hf⟩ := bn1_i hf
        refine g_callVI Γ (pc := 31) (as := [.int 62]) (st := []) dX8_test_31 (c_X8_isSign hM h1) (M_obj hM) rfl mi_X8_isSign mv_X8_isSign kM_X8_263 rfl ⟨rm_f _ _ _ (by decide), rm_l _ _ _ _ (by decide) (by decide)⟩ rfl (Nat.le_of_ble_eq_true rfl) ?_
        refine g_if_eq Γ (pc := 34) (tgt := 62) dX8_test_34 rfl hf (fun hf => ?_) (fun hf => ?_)
        · refine g_iconst Γ (pc := 62) (v := 1) dX8_test_62 rfl ?_
          exact rZk ret dX8_test_63 (Or.inr rfl) hf
        · refine g_sub Γ [0, 1] rfl ?_
          exact J_37 hf
  · refine g_iconst Γ (pc := 8) (v := 0) dX8_test_8 rfl ?_
    exact rZk ret dX8_test_9 (Or.inl rfl) hf
def f_X8_both_K10_31 (m3 : Mem) : Option (Int32 × Mem) :=
  some (0, m3)
def f_X8_both_K10_43 (m4 : Mem) : Option (Int32 × Mem) :=
  some (1, m4)
def f_X8_both_L10 (rec : Nat → Int32 → Mem → Option (Int32 × Mem)) (a0 : Int32) (m5 : Mem) : Option (Mem ⊕ (Mem ⊕ Mem)) :=
  bn1 (f_X8_isSign 38 m5) fun v6 =>
  if v6 = 0 then
    some (.inr (.inr m5))
  else
    bn1 (f_X8_nextToken m5) fun m7 =>
    bn2 (rec 2 a0 m7) fun v8 m9 =>
    if v8 = 0 then
      some (.inr (.inl m9))
    else
      bn1 (f_X8_step 2 38 m9) fun m10 =>
      some (.inl m10)
def F_X8_both (rec : Nat → Int32 → Mem → Option (Int32 × Mem)) (a0 : Int32) (μ : Mem) : Option (Int32 × Mem) :=
  bn2 (rec 2 a0 μ) fun v1 m2 =>
  if v1 = 0 then
    some (0, m2)
  else
    bn1 (lpF (fun v => f_X8_both_L10 rec a0 v) 4000 m2) (fun x => cs2 x (fun y => f_X8_both_K10_31 y) (fun x0 => f_X8_both_K10_43 x0))
set_option maxRecDepth 100000 in
set_option maxHeartbeats 4000000 in
theorem o_X8_both {Y : SYS} (hM : IsM Y) {rec : Nat → Int32 → Mem → Option (Int32 × Mem)} {n : Nat} (hrec_X8_test : ∀ {a0 : Int32} {μ m : Mem} {x : Int32}, rec 2 a0 μ = some (x, m) → KC Y yX8_test cX8_test 3 (some .boolean) (3 + n) [.ref (sq Y 0), .int a0] μ (some (.int x)) m) {a0 : Int32} {μ : Mem} {x : Int32} {m : Mem} (hf : F_X8_both rec a0 μ = some (x, m)) : KC Y yX8_both cX8_both 2 (some .boolean) (3 + (n + 1)) [.ref (sq Y 0), .int a0] μ (some (.int x)) m := by
  refine KC.Z RX8 [(0, .ref (sq Y 0)), (1, .int a0)] (by decide) rfl (Nat.le_of_ble_eq_true rfl) rfl (fun G Γ ret => ?_)
  unfold F_X8_both at hf
  refine g_aload_n Γ (pc := 0) 0 dX8_both_0 rfl rfl ?_
  refine g_iload_n Γ (pc := 1) 1 dX8_both_1 rfl rfl ?_
  obtain ⟨v1, m2, h1, hf⟩ := bn2_i hf
  refine g_callVI Γ (pc := 2) (as := [.int a0]) (st := []) dX8_both_2 (hrec_X8_test h1) (M_obj hM) rfl mi_X8_test mv_X8_test kM_X8_272 rfl ⟨rm_fs _ _, rm_ls _ _ _ (by decide)⟩ rfl (Nat.le_of_ble_eq_true rfl) ?_
  refine g_if_ne Γ (pc := 5) (tgt := 10) dX8_both_5 rfl hf (fun hf => ?_) (fun hf => ?_)
  · have K_10_31 : ∀ (m3 : Mem), f_X8_both_K10_31 m3 = some (x, m) → G 31 [] [] m3 := by
      intro m3 hf
      unfold f_X8_both_K10_31 at hf
      refine g_iconst Γ (pc := 31) (v := 0) dX8_both_31 rfl ?_
      exact rZk ret dX8_both_32 (Or.inl rfl) hf
    have K_10_43 : ∀ (m4 : Mem), f_X8_both_K10_43 m4 = some (x, m) → G 43 [] [] m4 := by
      intro m4 hf
      unfold f_X8_both_K10_43 at hf
      refine g_iconst Γ (pc := 43) (v := 1) dX8_both_43 rfl ?_
      exact rZk ret dX8_both_44 (Or.inr rfl) hf
    refine g_sub Γ [0, 1] rfl ?_
    refine lpF_s (P := fun (v : Mem) => G 10 [(0, .ref (sq Y 0)), (1, .int a0)] [] v) hf (fun v z1 hf kI1 kX1 => ?_)
    obtain ⟨m5, rfl⟩ : ∃ w, w = v := ⟨v, rfl⟩
    replace hf : f_X8_both_L10 rec a0 m5 = some z1 := hf
    show G 10 [(0, .ref (sq Y 0)), (1, .int a0)] [] m5
    unfold f_X8_both_L10 at hf
    refine g_aload_n Γ (pc := 10) 0 dX8_both_10 rfl rfl ?_
    refine g_bipush Γ (pc := 11) (v := 38) dX8_both_11 rfl ?_
    obtain ⟨v6, h1, hf⟩ := bn1_i hf
    refine g_callVI Γ (pc := 13) (as := [.int 38]) (st := []) dX8_both_13 (c_X8_isSign hM h1) (M_obj hM) rfl mi_X8_isSign mv_X8_isSign kM_X8_263 rfl ⟨rm_f _ _ _ (by decide), rm_l _ _ _ _ (by decide) (by decide)⟩ rfl (Nat.le_of_ble_eq_true rfl) ?_
    refine g_if_eq Γ (pc := 16) (tgt := 43) dX8_both_16 rfl hf (fun hf => ?_) (fun hf => ?_)
    · refine g_sub Γ [] rfl ?_
      exact K_10_43 m5 (kX1 (.inr m5) (Option.some.inj hf).symm)
    · refine g_aload_n Γ (pc := 19) 0 dX8_both_19 rfl rfl ?_
      obtain ⟨m7, h1, hf⟩ := bn1_i hf
      refine g_callVV Γ (pc := 20) (as := []) (st := []) dX8_both_20 (c_X8_nextToken hM h1) (M_obj hM) rfl mi_X8_nextToken mv_X8_nextToken kM_X8_266 rfl ⟨rm_f _ _ _ (by decide), rm_l _ _ _ _ (by decide) (by decide)⟩ rfl (Nat.le_of_ble_eq_true rfl) ?_
      refine g_aload_n Γ (pc := 23) 0 dX8_both_23 rfl rfl ?_
      refine g_iload_n Γ (pc := 24) 1 dX8_both_24 rfl rfl ?_
      obtain ⟨v8, m9, h1, hf⟩ := bn2_i hf
      refine g_callVI Γ (pc := 25) (as := [.int a0]) (st := []) dX8_both_25 (hrec_X8_test h1) (M_obj hM) rfl mi_X8_test mv_X8_test kM_X8_272 rfl ⟨rm_fs _ _, rm_ls _ _ _ (by decide)⟩ rfl (Nat.le_of_ble_eq_true rfl) ?_
      refine g_if_ne Γ (pc := 28) (tgt := 33) dX8_both_28 rfl hf (fun hf => ?_) (fun hf => ?_)
      · refine g_aload_n Γ (pc := 33) 0 dX8_both_33 rfl rfl ?_
        refine g_iconst Γ (pc := 34) (v := 2) dX8_both_34 rfl ?_
        refine g_bipush Γ (pc := 35) (v := 38) dX8_both_35 rfl ?_
        obtain ⟨m10, h1, hf⟩ := bn1_i hf
        refine g_callVV Γ (pc := 37) (as := [.int 2, .int 38]) (st := []) dX8_both_37 (c_X8_step hM h1) (M_obj hM) rfl mi_X8_step mv_X8_step kM_X8_269 rfl ⟨rm_f _ _ _ (by decide), rm_l _ _ _ _ (by decide) (by decide)⟩ rfl (Nat.le_of_ble_eq_true rfl) ?_
        refine g_goto Γ (pc := 40) (tgt := 10) dX8_both_40 rfl ?_
        refine g_sub Γ [0, 1] rfl ?_
        exact kI1 m10 (Option.some.inj hf).symm
      · refine g_sub Γ [] rfl ?_
        exact K_10_31 m9 (kX1 (.inl m9) (Option.some.inj hf).symm)
  · refine g_iconst Γ (pc := 8) (v := 0) dX8_both_8 rfl ?_
    exact rZk ret dX8_both_9 (Or.inl rfl) hf
def f_X8_either_K10_31 (m3 : Mem) : Option (Int32 × Mem) :=
  some (0, m3)
def f_X8_either_K10_43 (m4 : Mem) : Option (Int32 × Mem) :=
  some (1, m4)
def f_X8_either_L10 (rec : Nat → Int32 → Mem → Option (Int32 × Mem)) (a0 : Int32) (m5 : Mem) : Option (Mem ⊕ (Mem ⊕ Mem)) :=
  bn1 (f_X8_isSign 124 m5) fun v6 =>
  if v6 = 0 then
    some (.inr (.inr m5))
  else
    bn1 (f_X8_nextToken m5) fun m7 =>
    bn2 (rec 1 a0 m7) fun v8 m9 =>
    if v8 = 0 then
      some (.inr (.inl m9))
    else
      bn1 (f_X8_step 2 124 m9) fun m10 =>
      some (.inl m10)
def F_X8_either (rec : Nat → Int32 → Mem → Option (Int32 × Mem)) (a0 : Int32) (μ : Mem) : Option (Int32 × Mem) :=
  bn2 (rec 1 a0 μ) fun v1 m2 =>
  if v1 = 0 then
    some (0, m2)
  else
    bn1 (lpF (fun v => f_X8_either_L10 rec a0 v) 4000 m2) (fun x => cs2 x (fun y => f_X8_either_K10_31 y) (fun x0 => f_X8_either_K10_43 x0))
set_option maxRecDepth 100000 in
set_option maxHeartbeats 4000000 in
theorem o_X8_either {Y : SYS} (hM : IsM Y) {rec : Nat → Int32 → Mem → Option (Int32 × Mem)} {n : Nat} (hrec_X8_both : ∀ {a0 : Int32} {μ m : Mem} {x : Int32}, rec 1 a0 μ = some (x, m) → KC Y yX8_both cX8_both 2 (some .boolean) (3 + n) [.ref (sq Y 0), .int a0] μ (some (.int x)) m) {a0 : Int32} {μ : Mem} {x : Int32} {m : Mem} (hf : F_X8_either rec a0 μ = some (x, m)) : KC Y yX8_either cX8_either 2 (some .boolean) (3 + (n + 1)) [.ref (sq Y 0), .int a0] μ (some (.int x)) m := by
  refine KC.Z RX8 [(0, .ref (sq Y 0)), (1, .int a0)] (by decide) rfl (Nat.le_of_ble_eq_true rfl) rfl (fun G Γ ret => ?_)
  unfold F_X8_either at hf
  refine g_aload_n Γ (pc := 0) 0 dX8_either_0 rfl rfl ?_
  refine g_iload_n Γ (pc := 1) 1 dX8_either_1 rfl rfl ?_
  obtain ⟨v1, m2, h1, hf⟩ := bn2_i hf
  refine g_callVI Γ (pc := 2) (as := [.int a0]) (st := []) dX8_either_2 (hrec_X8_both h1) (M_obj hM) rfl mi_X8_both mv_X8_both kM_X8_260 rfl ⟨rm_fs _ _, rm_ls _ _ _ (by decide)⟩ rfl (Nat.le_of_ble_eq_true rfl) ?_
  refine g_if_ne Γ (pc := 5) (tgt := 10) dX8_either_5 rfl hf (fun hf => ?_) (fun hf => ?_)
  · have K_10_31 : ∀ (m3 : Mem), f_X8_either_K10_31 m3 = some (x, m) → G 31 [] [] m3 := by
      intro m3 hf
      unfold f_X8_either_K10_31 at hf
      refine g_iconst Γ (pc := 31) (v := 0) dX8_either_31 rfl ?_
      exact rZk ret dX8_either_32 (Or.inl rfl) hf
    have K_10_43 : ∀ (m4 : Mem), f_X8_either_K10_43 m4 = some (x, m) → G 43 [] [] m4 := by
      intro m4 hf
      unfold f_X8_either_K10_43 at hf
      refine g_iconst Γ (pc := 43) (v := 1) dX8_either_43 rfl ?_
      exact rZk ret dX8_either_44 (Or.inr rfl) hf
    refine g_sub Γ [0, 1] rfl ?_
    refine lpF_s (P := fun (v : Mem) => G 10 [(0, .ref (sq Y 0)), (1, .int a0)] [] v) hf (fun v z1 hf kI1 kX1 => ?_)
    obtain ⟨m5, rfl⟩ : ∃ w, w = v := ⟨v, rfl⟩
    replace hf : f_X8_either_L10 rec a0 m5 = some z1 := hf
    show G 10 [(0, .ref (sq Y 0)), (1, .int a0)] [] m5
    unfold f_X8_either_L10 at hf
    refine g_aload_n Γ (pc := 10) 0 dX8_either_10 rfl rfl ?_
    refine g_bipush Γ (pc := 11) (v := 124) dX8_either_11 rfl ?_
    obtain ⟨v6, h1, hf⟩ := bn1_i hf
    refine g_callVI Γ (pc := 13) (as := [.int 124]) (st := []) dX8_either_13 (c_X8_isSign hM h1) (M_obj hM) rfl mi_X8_isSign mv_X8_isSign kM_X8_263 rfl ⟨rm_f _ _ _ (by decide), rm_l _ _ _ _ (by decide) (by decide)⟩ rfl (Nat.le_of_ble_eq_true rfl) ?_
    refine g_if_eq Γ (pc := 16) (tgt := 43) dX8_either_16 rfl hf (fun hf => ?_) (fun hf => ?_)
    · refine g_sub Γ [] rfl ?_
      exact K_10_43 m5 (kX1 (.inr m5) (Option.some.inj hf).symm)
    · refine g_aload_n Γ (pc := 19) 0 dX8_either_19 rfl rfl ?_
      obtain ⟨m7, h1, hf⟩ := bn1_i hf
      refine g_callVV Γ (pc := 20) (as := []) (st := []) dX8_either_20 (c_X8_nextToken hM h1) (M_obj hM) rfl mi_X8_nextToken mv_X8_nextToken kM_X8_266 rfl ⟨rm_f _ _ _ (by decide), rm_l _ _ _ _ (by decide) (by decide)⟩ rfl (Nat.le_of_ble_eq_true rfl) ?_
      refine g_aload_n Γ (pc := 23) 0 dX8_either_23 rfl rfl ?_
      refine g_iload_n Γ (pc := 24) 1 dX8_either_24 rfl rfl ?_
      obtain ⟨v8, m9, h1, hf⟩ := bn2_i hf
      refine g_callVI Γ (pc := 25) (as := [.int a0]) (st := []) dX8_either_25 (hrec_X8_both h1) (M_obj hM) rfl mi_X8_both mv_X8_both kM_X8_260 rfl ⟨rm_fs _ _, rm_ls _ _ _ (by decide)⟩ rfl (Nat.le_of_ble_eq_true rfl) ?_
      refine g_if_ne Γ (pc := 28) (tgt := 33) dX8_either_28 rfl hf (fun hf => ?_) (fun hf => ?_)
      · refine g_aload_n Γ (pc := 33) 0 dX8_either_33 rfl rfl ?_
        refine g_iconst Γ (pc := 34) (v := 2) dX8_either_34 rfl ?_
        refine g_bipush Γ (pc := 35) (v := 124) dX8_either_35 rfl ?_
        obtain ⟨m10, h1, hf⟩ := bn1_i hf
        refine g_callVV Γ (pc := 37) (as := [.int 2, .int 124]) (st := []) dX8_either_37 (c_X8_step hM h1) (M_obj hM) rfl mi_X8_step mv_X8_step kM_X8_269 rfl ⟨rm_f _ _ _ (by decide), rm_l _ _ _ _ (by decide) (by decide)⟩ rfl (Nat.le_of_ble_eq_true rfl) ?_
        refine g_goto Γ (pc := 40) (tgt := 10) dX8_either_40 rfl ?_
        refine g_sub Γ [0, 1] rfl ?_
        exact kI1 m10 (Option.some.inj hf).symm
      · refine g_sub Γ [] rfl ?_
        exact K_10_31 m9 (kX1 (.inl m9) (Option.some.inj hf).symm)
  · refine g_iconst Γ (pc := 8) (v := 0) dX8_either_8 rfl ?_
    exact rZk ret dX8_either_9 (Or.inl rfl) hf
def r_M : Nat → Nat → Int32 → Mem → Option (Int32 × Mem)
  | 0, _, _, _ => none
  | n + 1, t, a, μ =>
    if t = 0 then F_X8_either (r_M n) a μ else if t = 1 then F_X8_both (r_M n) a μ else if t = 2 then F_X8_test (r_M n) a μ else if t = 3 then F_X8_sum (r_M n) a μ else if t = 4 then F_X8_term (r_M n) a μ else F_X8_part0 (r_M n) a μ
set_option maxRecDepth 100000 in
set_option maxHeartbeats 4000000 in
theorem c_rec_M {Y : SYS} (hM : IsM Y) : ∀ n : Nat, (∀ {a0 : Int32} {μ m : Mem} {x : Int32}, r_M n 0 a0 μ = some (x, m) → KC Y yX8_either cX8_either 2 (some .boolean) (3 + n) [.ref (sq Y 0), .int a0] μ (some (.int x)) m) ∧ (∀ {a0 : Int32} {μ m : Mem} {x : Int32}, r_M n 1 a0 μ = some (x, m) → KC Y yX8_both cX8_both 2 (some .boolean) (3 + n) [.ref (sq Y 0), .int a0] μ (some (.int x)) m) ∧ (∀ {a0 : Int32} {μ m : Mem} {x : Int32}, r_M n 2 a0 μ = some (x, m) → KC Y yX8_test cX8_test 3 (some .boolean) (3 + n) [.ref (sq Y 0), .int a0] μ (some (.int x)) m) ∧ (∀ {a0 : Int32} {μ m : Mem} {x : Int32}, r_M n 3 a0 μ = some (x, m) → KC Y yX8_sum cX8_sum 3 (some .boolean) (3 + n) [.ref (sq Y 0), .int a0] μ (some (.int x)) m) ∧ (∀ {a0 : Int32} {μ m : Mem} {x : Int32}, r_M n 4 a0 μ = some (x, m) → KC Y yX8_term cX8_term 3 (some .boolean) (3 + n) [.ref (sq Y 0), .int a0] μ (some (.int x)) m) ∧ (∀ {a0 : Int32} {μ m : Mem} {x : Int32}, r_M n 5 a0 μ = some (x, m) → KC Y yX8_part0 cX8_part0 2 (some .boolean) (3 + n) [.ref (sq Y 0), .int a0] μ (some (.int x)) m) := by
  intro n
  induction n with
  | zero => exact ⟨(fun h => by rw [r_M] at h; cases h), (fun h => by rw [r_M] at h; cases h), (fun h => by rw [r_M] at h; cases h), (fun h => by rw [r_M] at h; cases h), (fun h => by rw [r_M] at h; cases h), (fun h => by rw [r_M] at h; cases h)⟩
  | succ n ih =>
    obtain ⟨i0, i1, i2, i3, i4, i5⟩ := ih
    refine ⟨?_, ?_, ?_, ?_, ?_, ?_⟩
    · intro a0 μ m x h
      rw [r_M, if_pos rfl] at h
      exact o_X8_either hM i1 h
    · intro a0 μ m x h
      rw [r_M, if_neg (by decide), if_pos rfl] at h
      exact o_X8_both hM i2 h
    · intro a0 μ m x h
      rw [r_M, if_neg (by decide), if_neg (by decide), if_pos rfl] at h
      exact o_X8_test hM i3 h
    · intro a0 μ m x h
      rw [r_M, if_neg (by decide), if_neg (by decide), if_neg (by decide), if_pos rfl] at h
      exact o_X8_sum hM i4 h
    · intro a0 μ m x h
      rw [r_M, if_neg (by decide), if_neg (by decide), if_neg (by decide), if_neg (by decide), if_pos rfl] at h
      exact o_X8_term hM i5 h
    · intro a0 μ m x h
      rw [r_M, if_neg (by decide), if_neg (by decide), if_neg (by decide), if_neg (by decide), if_neg (by decide)] at h
      exact o_X8_part0 hM i5 i0 h
def f_X8_either (a0 : Int32) (μ : Mem) : Option (Int32 × Mem) := r_M 200 0 a0 μ
theorem c_X8_either {Y : SYS} (hM : IsM Y) {a0 : Int32} {μ m : Mem} {x : Int32} (hf : f_X8_either a0 μ = some (x, m)) : KC Y yX8_either cX8_either 2 (some .boolean) 203 [.ref (sq Y 0), .int a0] μ (some (.int x)) m := (c_rec_M hM 200).1 hf
def f_X8_parse_J111 (v11 : Int32) (x2_13 : Int32) (m14 : Mem) : Option (Int32 × Mem) :=
  nm (mset m14 0 14 0) fun m15 =>
  if x2_13 = 0 then
    some ((-1), m15)
  else
    some (v11, m15)
def f_X8_parse_J110 (v11 : Int32) (m18 : Mem) (s19 : Int32) : Option (Int32 × Mem) :=
  f_X8_parse_J111 v11 s19 m18
def f_X8_parse_J109 (v11 : Int32) (m18 : Mem) : Option (Int32 × Mem) :=
  f_X8_parse_J110 v11 m18 0
def f_X8_parse_J81 (m10 : Mem) (v11 : Int32) (s12 : Int32) : Option (Int32 × Mem) :=
  if s12 = 0 then
    f_X8_parse_J111 v11 s12 m10
  else
    bn1 (f_X8_nextToken m10) fun m16 =>
    bn2 (f_X8_either v11 m16) fun v17 m18 =>
    if v17 = 0 then
      f_X8_parse_J109 v11 m18
    else
      if (m18 0 17) = 0 then
        f_X8_parse_J110 v11 m18 1
      else
        f_X8_parse_J109 v11 m18
def f_X8_parse_J60 (m6 : Mem) (s8 : Int32) : Option (Int32 × Mem) :=
  nm (mset m6 0 23 s8) fun m9 =>
  bn1 (f_X8_nextToken m9) fun m10 =>
  bn1 (f_X8_key m10) fun v11 =>
  if v11 < 0 then
    f_X8_parse_J81 m10 v11 0
  else
    f_X8_parse_J81 m10 v11 1
def f_X8_parse (μ : Mem) : Option (Int32 × Mem) :=
  nm (mset μ 0 16 0) fun m1 =>
  nm (mset m1 0 17 3) fun m2 =>
  nm (mset m2 0 20 0) fun m3 =>
  nm (mset m3 0 21 0) fun m4 =>
  nm (mset m4 0 22 0) fun m5 =>
  nm (mset m5 0 24 0) fun m6 =>
  bn1 (ldM (m6 1) 3059 1) fun v7 =>
  if 14 ≤ v7 then
    f_X8_parse_J60 m6 2859
  else
    bn1 (ldM (m6 1) 3059 1) fun v20 =>
    bn1 (f_X8_textAt v20 m6) fun v21 =>
    f_X8_parse_J60 m6 (v21 + 4)
set_option maxRecDepth 100000 in
set_option maxHeartbeats 4000000 in
theorem c_X8_parse {Y : SYS} (hM : IsM Y) {μ : Mem} {x : Int32} {m : Mem} (hf : f_X8_parse μ = some (x, m)) : KC Y yX8_parse cX8_parse 3 (some .int) 204 [.ref (sq Y 0)] μ (some (.int x)) m := by
  refine KC.I RX8 [(0, .ref (sq Y 0))] (by decide) rfl (Nat.le_of_ble_eq_true rfl) rfl (fun G Γ ret => ?_)
  unfold f_X8_parse at hf
  refine g_aload_n Γ (pc := 0) 0 dX8_parse_0 rfl rfl ?_
  refine g_iconst Γ (pc := 1) (v := 0) dX8_parse_1 rfl ?_
  refine g_put Γ (pc := 2) dX8_parse_2 (M_obj hM) fw_X8_229 (Nat.le_of_ble_eq_true rfl) rfl ?_
  refine g_nmm hf (fun m1 hf => ?_)
  refine g_aload_n Γ (pc := 5) 0 dX8_parse_5 rfl rfl ?_
  refine g_iconst Γ (pc := 6) (v := 3) dX8_parse_6 rfl ?_
  refine g_put Γ (pc := 7) dX8_parse_7 (M_obj hM) fw_X8_232 (Nat.le_of_ble_eq_true rfl) rfl ?_
  refine g_nmm hf (fun m2 hf => ?_)
  refine g_aload_n Γ (pc := 10) 0 dX8_parse_10 rfl rfl ?_
  refine g_iconst Γ (pc := 11) (v := 0) dX8_parse_11 rfl ?_
  refine g_put Γ (pc := 12) dX8_parse_12 (M_obj hM) fw_X8_293 (Nat.le_of_ble_eq_true rfl) rfl ?_
  refine g_nmm hf (fun m3 hf => ?_)
  refine g_aload_n Γ (pc := 15) 0 dX8_parse_15 rfl rfl ?_
  refine g_iconst Γ (pc := 16) (v := 0) dX8_parse_16 rfl ?_
  refine g_put Γ (pc := 17) dX8_parse_17 (M_obj hM) fw_X8_290 (Nat.le_of_ble_eq_true rfl) rfl ?_
  refine g_nmm hf (fun m4 hf => ?_)
  refine g_aload_n Γ (pc := 20) 0 dX8_parse_20 rfl rfl ?_
  refine g_iconst Γ (pc := 21) (v := 0) dX8_parse_21 rfl ?_
  refine g_put Γ (pc := 22) dX8_parse_22 (M_obj hM) fw_X8_257 (Nat.le_of_ble_eq_true rfl) rfl ?_
  refine g_nmm hf (fun m5 hf => ?_)
  refine g_aload_n Γ (pc := 25) 0 dX8_parse_25 rfl rfl ?_
  refine g_iconst Γ (pc := 26) (v := 0) dX8_parse_26 rfl ?_
  refine g_put Γ (pc := 27) dX8_parse_27 (M_obj hM) fw_X8_284 (Nat.le_of_ble_eq_true rfl) rfl ?_
  refine g_nmm hf (fun m6 hf => ?_)
  refine g_aload_n Γ (pc := 30) 0 dX8_parse_30 rfl rfl ?_
  refine g_aload_n Γ (pc := 31) 0 dX8_parse_31 rfl rfl ?_
  refine g_get Γ (pc := 32) (v := .ref (sq Y 1)) dX8_parse_32 (M_obj hM) fr_X8_7 rfl ?_
  refine g_iconst Γ (pc := 35) (v := 1) dX8_parse_35 rfl ?_
  refine g_iald Γ (pc := 36) dX8_parse_36 (M_1 hM) hf (fun v7 hf => ?_)
  refine g_bipush Γ (pc := 37) (v := 14) dX8_parse_37 rfl ?_
  have J_60 : ∀ (s8 : Int32), f_X8_parse_J60 m6 s8 = some (x, m) → G 60 [(0, .ref (sq Y 0))] [.int s8, .ref (sq Y 0)] m6 := by
    intro s8 hf
    unfold f_X8_parse_J60 at hf
    refine g_put Γ (pc := 60) dX8_parse_60 (M_obj hM) fw_X8_254 (Nat.le_of_ble_eq_true rfl) rfl ?_
    refine g_nmm hf (fun m9 hf => ?_)
    refine g_aload_n Γ (pc := 63) 0 dX8_parse_63 rfl rfl ?_
    obtain ⟨m10, h1, hf⟩ := bn1_i hf
    refine g_callVV Γ (pc := 64) (as := []) (st := []) dX8_parse_64 (c_X8_nextToken hM h1) (M_obj hM) rfl mi_X8_nextToken mv_X8_nextToken kM_X8_266 rfl ⟨Nat.le_of_ble_eq_true rfl, Nat.le_of_ble_eq_true rfl⟩ rfl (Nat.le_of_ble_eq_true rfl) ?_
    refine g_aload_n Γ (pc := 67) 0 dX8_parse_67 rfl rfl ?_
    obtain ⟨v11, h1, hf⟩ := bn1_i hf
    refine g_callVI Γ (pc := 68) (as := []) (st := []) dX8_parse_68 (c_X8_key hM h1) (M_obj hM) rfl mi_X8_key mv_X8_key kM_X8_302 rfl ⟨Nat.le_of_ble_eq_true rfl, Nat.le_of_ble_eq_true rfl⟩ rfl (Nat.le_of_ble_eq_true rfl) ?_
    refine g_istore_n Γ (pc := 71) (lv' := [(1, .int v11), (0, .ref (sq Y 0))]) dX8_parse_71 rfl (by decide) rfl ?_
    refine g_iload_n Γ (pc := 72) 0 dX8_parse_72 rfl rfl ?_
    have J_81 : ∀ (s12 : Int32), f_X8_parse_J81 m10 v11 s12 = some (x, m) → G 81 [(0, .ref (sq Y 0)), (1, .int v11)] [.int s12] m10 := by
      intro s12 hf
      unfold f_X8_parse_J81 at hf
      refine g_istore_n Γ (pc := 81) (lv' := [(2, .int s12), (0, .ref (sq Y 0)), (1, .int v11)]) dX8_parse_81 rfl (by decide) rfl ?_
      refine g_iload_n Γ (pc := 82) 0 dX8_parse_82 rfl rfl ?_
      have J_111 : ∀ (x2_13 : Int32) (m14 : Mem), f_X8_parse_J111 v11 x2_13 m14 = some (x, m) → G 111 [(0, .ref (sq Y 0)), (1, .int v11), (2, .int x2_13)] [] m14 := by
        intro x2_13 m14 hf
        unfold f_X8_parse_J111 at hf
        refine g_aload_n Γ (pc := 111) 0 dX8_parse_111 rfl rfl ?_
        refine g_iconst Γ (pc := 112) (v := 0) dX8_parse_112 rfl ?_
        refine g_put Γ (pc := 113) dX8_parse_113 (M_obj hM) fw_X8_217 (Nat.le_of_ble_eq_true rfl) rfl ?_
        refine g_nmm hf (fun m15 hf => ?_)
        refine g_iload_n Γ (pc := 116) 2 dX8_parse_116 rfl rfl ?_
        refine g_if_eq Γ (pc := 117) (tgt := 124) dX8_parse_117 rfl hf (fun hf => ?_) (fun hf => ?_)
        · refine g_iconst Γ (pc := 124) (v := (-1)) dX8_parse_124 rfl ?_
          exact rI ret dX8_parse_125 hf
        · refine g_iload_n Γ (pc := 120) 1 dX8_parse_120 rfl rfl ?_
          refine g_goto Γ (pc := 121) (tgt := 125) dX8_parse_121 rfl ?_
          exact rI ret dX8_parse_125 hf
      refine g_if_eq Γ (pc := 83) (tgt := 111) dX8_parse_83 rfl hf (fun hf => ?_) (fun hf => ?_)
      · refine g_sub Γ [1, 2, 0] rfl ?_
        exact J_111 s12 m10 hf
      · refine g_aload_n Γ (pc := 86) 1 dX8_parse_86 rfl rfl ?_
        obtain ⟨m16, h1, hf⟩ := bn1_i hf
        refine g_callVV Γ (pc := 87) (as := []) (st := []) dX8_parse_87 (c_X8_nextToken hM h1) (M_obj hM) rfl mi_X8_nextToken mv_X8_nextToken kM_X8_266 rfl ⟨Nat.le_of_ble_eq_true rfl, Nat.le_of_ble_eq_true rfl⟩ rfl (Nat.le_of_ble_eq_true rfl) ?_
        refine g_aload_n Γ (pc := 90) 1 dX8_parse_90 rfl rfl ?_
        refine g_iload_n Γ (pc := 91) 2 dX8_parse_91 rfl rfl ?_
        obtain ⟨v17, m18, h1, hf⟩ := bn2_i hf
        refine g_callVI Γ (pc := 92) (as := [.int v11]) (st := []) dX8_parse_92 (c_X8_either hM h1) (M_obj hM) rfl mi_X8_either mv_X8_either kM_X8_296 rfl ⟨Nat.le_of_ble_eq_true rfl, Nat.le_of_ble_eq_true rfl⟩ rfl (Nat.le_of_ble_eq_true rfl) ?_
        have J_110 : ∀ (s19 : Int32), f_X8_parse_J110 v11 m18 s19 = some (x, m) → G 110 [(0, .ref (sq Y 0)), (1, .int v11)] [.int s19] m18 := by
          intro s19 hf
          unfold f_X8_parse_J110 at hf
          refine g_istore_n Γ (pc := 110) (lv' := [(2, .int s19), (0, .ref (sq Y 0)), (1, .int v11)]) dX8_parse_110 rfl (by decide) rfl ?_
          refine g_sub Γ [1, 2, 0] rfl ?_
          exact J_111 s19 m18 hf
        have J_109 : f_X8_parse_J109 v11 m18 = some (x, m) → G 109 [(0, .ref (sq Y 0)), (1, .int v11)] [] m18 := by
          intro hf
          unfold f_X8_parse_J109 at hf
          refine g_iconst Γ (pc := 109) (v := 0) dX8_parse_109 rfl ?_
          refine g_sub Γ [0, 1] rfl ?_
          exact J_110 0 hf
        refine g_if_eq Γ (pc := 95) (tgt := 109) dX8_parse_95 rfl hf (fun hf => ?_) (fun hf => ?_)
        · refine g_sub Γ [1, 2] rfl ?_
          exact J_109 hf
        · refine g_aload_n Γ (pc := 98) 1 dX8_parse_98 rfl rfl ?_
          refine g_get Γ (pc := 99) (v := .int (m18 0 17)) dX8_parse_99 (M_obj hM) fr_X8_232 rfl ?_
          refine g_if_ne Γ (pc := 102) (tgt := 109) dX8_parse_102 rfl hf (fun hf => ?_) (fun hf => ?_)
          · refine g_sub Γ [1, 2] rfl ?_
            exact J_109 hf
          · refine g_iconst Γ (pc := 105) (v := 1) dX8_parse_105 rfl ?_
            refine g_goto Γ (pc := 106) (tgt := 110) dX8_parse_106 rfl ?_
            refine g_sub Γ [1, 2] rfl ?_
            exact J_110 1 hf
    refine g_if_lt Γ (pc := 73) (tgt := 80) dX8_parse_73 rfl hf (fun hf => ?_) (fun hf => ?_)
    · refine g_iconst Γ (pc := 80) (v := 0) dX8_parse_80 rfl ?_
      refine g_sub Γ [1, 0] rfl ?_
      exact J_81 0 hf
    · refine g_iconst Γ (pc := 76) (v := 1) dX8_parse_76 rfl ?_
      refine g_goto Γ (pc := 77) (tgt := 81) dX8_parse_77 rfl ?_
      refine g_sub Γ [1, 0] rfl ?_
      exact J_81 1 hf
  refine g_icmp_ge Γ (pc := 39) (tgt := 57) dX8_parse_39 rfl hf (fun hf => ?_) (fun hf => ?_)
  · refine g_sipush Γ (pc := 57) (v := 2859) dX8_parse_57 rfl ?_
    refine g_sub Γ [0] rfl ?_
    exact J_60 2859 hf
  · refine g_aload_n Γ (pc := 42) 0 dX8_parse_42 rfl rfl ?_
    refine g_aload_n Γ (pc := 43) 0 dX8_parse_43 rfl rfl ?_
    refine g_get Γ (pc := 44) (v := .ref (sq Y 1)) dX8_parse_44 (M_obj hM) fr_X8_7 rfl ?_
    refine g_iconst Γ (pc := 47) (v := 1) dX8_parse_47 rfl ?_
    refine g_iald Γ (pc := 48) dX8_parse_48 (M_1 hM) hf (fun v20 hf => ?_)
    obtain ⟨v21, h1, hf⟩ := bn1_i hf
    refine g_callVI Γ (pc := 49) (as := [.int v20]) (st := [.ref (sq Y 0)]) dX8_parse_49 (c_X8_textAt hM h1) (M_obj hM) rfl mi_X8_textAt mv_X8_textAt kM_X8_299 rfl ⟨Nat.le_of_ble_eq_true rfl, Nat.le_of_ble_eq_true rfl⟩ rfl (Nat.le_of_ble_eq_true rfl) ?_
    refine g_iconst Γ (pc := 52) (v := 4) dX8_parse_52 rfl ?_
    refine g_iadd Γ (pc := 53) dX8_parse_53 ?_
    refine g_goto Γ (pc := 54) (tgt := 60) dX8_parse_54 rfl ?_
    refine g_sub Γ [0] rfl ?_
    exact J_60 (v21 + 4) hf
def f_X8_text (μ : Mem) : Option (Int32 × Mem) :=
  bn2 (f_X8_parse μ) fun v1 m2 =>
  if 0 ≤ v1 then
    bn1 (ldM (m2 1) 3059 1) fun v3 =>
    if v3 = 14 then
      some ((-1000000003), m2)
    else
      bn1 (ldM (m2 1) 3059 1) fun v4 =>
      bn1 (f_X8_textAt v4 m2) fun v5 =>
      bn1 (stM m2 1 3059 (v5 + 0) v1) fun m6 =>
      bn1 (stM m6 1 3059 (v5 + 1) (m6 0 24)) fun m7 =>
      bn1 (stM m7 1 3059 (v5 + 2) (m7 0 22)) fun m8 =>
      bn1 (ldM (m8 1) 3059 1) fun v9 =>
      bn1 (stM m8 1 3059 1 (v9 + 1)) fun m10 =>
      bn1 (ldM (m10 1) 3059 1) fun v11 =>
      some ((v11 - 1), m10)
  else
    some (((-100) - (m2 0 15)), m2)
set_option maxRecDepth 100000 in
set_option maxHeartbeats 4000000 in
theorem c_X8_text {Y : SYS} (hM : IsM Y) {μ : Mem} {x : Int32} {m : Mem} (hf : f_X8_text μ = some (x, m)) : KC Y yX8_text cX8_text 3 (some .int) 205 [.ref (sq Y 0)] μ (some (.int x)) m := by
  refine KC.I RX8 [(0, .ref (sq Y 0))] (by decide) rfl (Nat.le_of_ble_eq_true rfl) rfl (fun G Γ ret => ?_)
  unfold f_X8_text at hf
  refine g_aload_n Γ (pc := 0) 0 dX8_text_0 rfl rfl ?_
  obtain ⟨v1, m2, h1, hf⟩ := bn2_i hf
  refine g_callVI Γ (pc := 1) (as := []) (st := []) dX8_text_1 (c_X8_parse hM h1) (M_obj hM) rfl mi_X8_parse mv_X8_parse kM_X8_305 rfl ⟨Nat.le_of_ble_eq_true rfl, Nat.le_of_ble_eq_true rfl⟩ rfl (Nat.le_of_ble_eq_true rfl) ?_
  refine g_istore_n Γ (pc := 4) (lv' := [(1, .int v1), (0, .ref (sq Y 0))]) dX8_text_4 rfl (by decide) rfl ?_
  refine g_iload_n Γ (pc := 5) 0 dX8_text_5 rfl rfl ?_
  refine g_if_ge Γ (pc := 6) (tgt := 17) dX8_text_6 rfl hf (fun hf => ?_) (fun hf => ?_)
  · refine g_aload_n Γ (pc := 17) 1 dX8_text_17 rfl rfl ?_
    refine g_get Γ (pc := 18) (v := .ref (sq Y 1)) dX8_text_18 (M_obj hM) fr_X8_7 rfl ?_
    refine g_iconst Γ (pc := 21) (v := 1) dX8_text_21 rfl ?_
    refine g_iald Γ (pc := 22) dX8_text_22 (M_1 hM) hf (fun v3 hf => ?_)
    refine g_bipush Γ (pc := 23) (v := 14) dX8_text_23 rfl ?_
    refine g_icmp_ne Γ (pc := 25) (tgt := 31) dX8_text_25 rfl hf (fun hf => ?_) (fun hf => ?_)
    · refine g_aload_n Γ (pc := 31) 1 dX8_text_31 rfl rfl ?_
      refine g_aload_n Γ (pc := 32) 1 dX8_text_32 rfl rfl ?_
      refine g_get Γ (pc := 33) (v := .ref (sq Y 1)) dX8_text_33 (M_obj hM) fr_X8_7 rfl ?_
      refine g_iconst Γ (pc := 36) (v := 1) dX8_text_36 rfl ?_
      refine g_iald Γ (pc := 37) dX8_text_37 (M_1 hM) hf (fun v4 hf => ?_)
      obtain ⟨v5, h1, hf⟩ := bn1_i hf
      refine g_callVI Γ (pc := 38) (as := [.int v4]) (st := []) dX8_text_38 (c_X8_textAt hM h1) (M_obj hM) rfl mi_X8_textAt mv_X8_textAt kM_X8_299 rfl ⟨Nat.le_of_ble_eq_true rfl, Nat.le_of_ble_eq_true rfl⟩ rfl (Nat.le_of_ble_eq_true rfl) ?_
      refine g_istore_n Γ (pc := 41) (lv' := [(2, .int v5), (1, .int v1), (0, .ref (sq Y 0))]) dX8_text_41 rfl (by decide) rfl ?_
      refine g_aload_n Γ (pc := 42) 2 dX8_text_42 rfl rfl ?_
      refine g_get Γ (pc := 43) (v := .ref (sq Y 1)) dX8_text_43 (M_obj hM) fr_X8_7 rfl ?_
      refine g_iload_n Γ (pc := 46) 0 dX8_text_46 rfl rfl ?_
      refine g_iconst Γ (pc := 47) (v := 0) dX8_text_47 rfl ?_
      refine g_iadd Γ (pc := 48) dX8_text_48 ?_
      refine g_iload_n Γ (pc := 49) 1 dX8_text_49 rfl rfl ?_
      refine g_iast Γ (pc := 50) dX8_text_50 (M_1 hM) hf (fun m6 hf => ?_)
      refine g_aload_n Γ (pc := 51) 2 dX8_text_51 rfl rfl ?_
      refine g_get Γ (pc := 52) (v := .ref (sq Y 1)) dX8_text_52 (M_obj hM) fr_X8_7 rfl ?_
      refine g_iload_n Γ (pc := 55) 0 dX8_text_55 rfl rfl ?_
      refine g_iconst Γ (pc := 56) (v := 1) dX8_text_56 rfl ?_
      refine g_iadd Γ (pc := 57) dX8_text_57 ?_
      refine g_aload_n Γ (pc := 58) 2 dX8_text_58 rfl rfl ?_
      refine g_get Γ (pc := 59) (v := .int (m6 0 24)) dX8_text_59 (M_obj hM) fr_X8_284 rfl ?_
      refine g_iast Γ (pc := 62) dX8_text_62 (M_1 hM) hf (fun m7 hf => ?_)
      refine g_aload_n Γ (pc := 63) 2 dX8_text_63 rfl rfl ?_
      refine g_get Γ (pc := 64) (v := .ref (sq Y 1)) dX8_text_64 (M_obj hM) fr_X8_7 rfl ?_
      refine g_iload_n Γ (pc := 67) 0 dX8_text_67 rfl rfl ?_
      refine g_iconst Γ (pc := 68) (v := 2) dX8_text_68 rfl ?_
      refine g_iadd Γ (pc := 69) dX8_text_69 ?_
      refine g_aload_n Γ (pc := 70) 2 dX8_text_70 rfl rfl ?_
      refine g_get Γ (pc := 71) (v := .int (m7 0 22)) dX8_text_71 (M_obj hM) fr_X8_257 rfl ?_
      refine g_iast Γ (pc := 74) dX8_text_74 (M_1 hM) hf (fun m8 hf => ?_)
      refine g_aload_n Γ (pc := 75) 2 dX8_text_75 rfl rfl ?_
      refine g_get Γ (pc := 76) (v := .ref (sq Y 1)) dX8_text_76 (M_obj hM) fr_X8_7 rfl ?_
      refine g_iconst Γ (pc := 79) (v := 1) dX8_text_79 rfl ?_
      refine g_dup2 Γ (pc := 80) dX8_text_80 rfl rfl ?_
      refine g_iald Γ (pc := 81) dX8_text_81 (M_1 hM) hf (fun v9 hf => ?_)
      refine g_iconst Γ (pc := 82) (v := 1) dX8_text_82 rfl ?_
      refine g_iadd Γ (pc := 83) dX8_text_83 ?_
      refine g_iast Γ (pc := 84) dX8_text_84 (M_1 hM) hf (fun m10 hf => ?_)
      refine g_aload_n Γ (pc := 85) 2 dX8_text_85 rfl rfl ?_
      refine g_get Γ (pc := 86) (v := .ref (sq Y 1)) dX8_text_86 (M_obj hM) fr_X8_7 rfl ?_
      refine g_iconst Γ (pc := 89) (v := 1) dX8_text_89 rfl ?_
      refine g_iald Γ (pc := 90) dX8_text_90 (M_1 hM) hf (fun v11 hf => ?_)
      refine g_iconst Γ (pc := 91) (v := 1) dX8_text_91 rfl ?_
      refine g_isub Γ (pc := 92) dX8_text_92 ?_
      exact rI ret dX8_text_93 hf
    · refine g_ldc Γ (pc := 28) dX8_text_28 kK_X8_79 ?_
      exact rI ret dX8_text_30 hf
  · refine g_bipush Γ (pc := 9) (v := (-100)) dX8_text_9 rfl ?_
    refine g_aload_n Γ (pc := 11) 1 dX8_text_11 rfl rfl ?_
    refine g_get Γ (pc := 12) (v := .int (m2 0 15)) dX8_text_12 (M_obj hM) fr_X8_235 rfl ?_
    refine g_isub Γ (pc := 15) dX8_text_15 ?_
    exact rI ret dX8_text_16 hf
def f_X8_isText (a0 : Int32) (μ : Mem) : Option (Int32) :=
  bn1 (ldM (μ 1) 3059 1) fun v1 =>
  bn1 (f_X8_isIn a0.toInt64 0 ((v1 - 1).toInt64)) fun v2 =>
  zM v2
set_option maxRecDepth 100000 in
set_option maxHeartbeats 4000000 in
theorem c_X8_isText {Y : SYS} (hM : IsM Y) {a0 : Int32} {μ : Mem} {x : Int32} (hf : f_X8_isText a0 μ = some x) : KC Y yX8_isText cX8_isText 2 (some .boolean) 1 [.ref (sq Y 0), .int a0] μ (some (.int x)) μ := by
  refine KC.Z RX8 [(0, .ref (sq Y 0)), (1, .int a0)] (by decide) rfl (Nat.le_of_ble_eq_true rfl) rfl (fun G Γ ret => ?_)
  unfold f_X8_isText at hf
  refine g_iload_n Γ (pc := 0) 1 dX8_isText_0 rfl rfl ?_
  refine g_i2l Γ (pc := 1) dX8_isText_1 ?_
  refine g_lconst Γ (pc := 2) (v := 0) dX8_isText_2 rfl ?_
  refine g_aload_n Γ (pc := 3) 0 dX8_isText_3 rfl rfl ?_
  refine g_get Γ (pc := 4) (v := .ref (sq Y 1)) dX8_isText_4 (M_obj hM) fr_X8_7 rfl ?_
  refine g_iconst Γ (pc := 7) (v := 1) dX8_isText_7 rfl ?_
  refine g_iald Γ (pc := 8) dX8_isText_8 (M_1 hM) hf (fun v1 hf => ?_)
  refine g_iconst Γ (pc := 9) (v := 1) dX8_isText_9 rfl ?_
  refine g_isub Γ (pc := 10) dX8_isText_10 ?_
  refine g_i2l Γ (pc := 11) dX8_isText_11 ?_
  obtain ⟨v2, h1, hf⟩ := bn1_i hf
  refine g_callSI Γ (pc := 12) (as := [.long a0.toInt64, .long 0, .long ((v1 - 1).toInt64)]) (st := []) dX8_isText_12 (c_X8_isIn h1) mi_X8_isIn ms_X8_isIn kM_X8_65 rfl ⟨Nat.le_of_ble_eq_true rfl, Nat.le_of_ble_eq_true rfl⟩ rfl (Nat.le_of_ble_eq_true rfl) ?_
  exact rZr ret dX8_isText_15 hf
def f_X8_textTold (a0 : Int32) (a1 : Int32) (μ : Mem) : Option (Int32) :=
  bn1 (f_X8_isText a0 μ) fun v1 =>
  if v1 = 0 then
    some (-1000000001)
  else
    bn1 (f_X8_isIn a1.toInt64 0 1) fun v2 =>
    if v2 = 0 then
      some (-1000000001)
    else
      bn1 (f_X8_textAt a0 μ) fun v3 =>
      bn1 (ldM (μ 1) 3059 (v3 + a1)) fun v4 =>
      some v4
set_option maxRecDepth 100000 in
set_option maxHeartbeats 4000000 in
theorem c_X8_textTold {Y : SYS} (hM : IsM Y) {a0 : Int32} {a1 : Int32} {μ : Mem} {x : Int32} (hf : f_X8_textTold a0 a1 μ = some x) : KC Y yX8_textTold cX8_textTold 3 (some .int) 2 [.ref (sq Y 0), .int a0, .int a1] μ (some (.int x)) μ := by
  refine KC.I RX8 [(0, .ref (sq Y 0)), (1, .int a0), (2, .int a1)] (by decide) rfl (Nat.le_of_ble_eq_true rfl) rfl (fun G Γ ret => ?_)
  unfold f_X8_textTold at hf
  refine g_aload_n Γ (pc := 0) 0 dX8_textTold_0 rfl rfl ?_
  refine g_iload_n Γ (pc := 1) 1 dX8_textTold_1 rfl rfl ?_
  obtain ⟨v1, h1, hf⟩ := bn1_i hf
  refine g_callVI Γ (pc := 2) (as := [.int a0]) (st := []) dX8_textTold_2 (c_X8_isText hM h1) (M_obj hM) rfl mi_X8_isText mv_X8_isText kM_X8_308 rfl ⟨Nat.le_of_ble_eq_true rfl, Nat.le_of_ble_eq_true rfl⟩ rfl (Nat.le_of_ble_eq_true rfl) ?_
  refine g_if_eq Γ (pc := 5) (tgt := 18) dX8_textTold_5 rfl hf (fun hf => ?_) (fun hf => ?_)
  · refine g_ldc Γ (pc := 18) dX8_textTold_18 kK_X8_78 ?_
    exact rIr ret dX8_textTold_20 hf
  · refine g_iload_n Γ (pc := 8) 2 dX8_textTold_8 rfl rfl ?_
    refine g_i2l Γ (pc := 9) dX8_textTold_9 ?_
    refine g_lconst Γ (pc := 10) (v := 0) dX8_textTold_10 rfl ?_
    refine g_lconst Γ (pc := 11) (v := 1) dX8_textTold_11 rfl ?_
    obtain ⟨v2, h1, hf⟩ := bn1_i hf
    refine g_callSI Γ (pc := 12) (as := [.long a1.toInt64, .long 0, .long 1]) (st := []) dX8_textTold_12 (c_X8_isIn h1) mi_X8_isIn ms_X8_isIn kM_X8_65 rfl ⟨Nat.le_of_ble_eq_true rfl, Nat.le_of_ble_eq_true rfl⟩ rfl (Nat.le_of_ble_eq_true rfl) ?_
    refine g_if_ne Γ (pc := 15) (tgt := 21) dX8_textTold_15 rfl hf (fun hf => ?_) (fun hf => ?_)
    · refine g_aload_n Γ (pc := 21) 0 dX8_textTold_21 rfl rfl ?_
      refine g_get Γ (pc := 22) (v := .ref (sq Y 1)) dX8_textTold_22 (M_obj hM) fr_X8_7 rfl ?_
      refine g_aload_n Γ (pc := 25) 0 dX8_textTold_25 rfl rfl ?_
      refine g_iload_n Γ (pc := 26) 1 dX8_textTold_26 rfl rfl ?_
      obtain ⟨v3, h1, hf⟩ := bn1_i hf
      refine g_callVI Γ (pc := 27) (as := [.int a0]) (st := [.ref (sq Y 1)]) dX8_textTold_27 (c_X8_textAt hM h1) (M_obj hM) rfl mi_X8_textAt mv_X8_textAt kM_X8_299 rfl ⟨Nat.le_of_ble_eq_true rfl, Nat.le_of_ble_eq_true rfl⟩ rfl (Nat.le_of_ble_eq_true rfl) ?_
      refine g_iload_n Γ (pc := 30) 2 dX8_textTold_30 rfl rfl ?_
      refine g_iadd Γ (pc := 31) dX8_textTold_31 ?_
      refine g_iald Γ (pc := 32) dX8_textTold_32 (M_1 hM) hf (fun v4 hf => ?_)
      exact rIr ret dX8_textTold_33 hf
    · refine g_ldc Γ (pc := 18) dX8_textTold_18 kK_X8_78 ?_
      exact rIr ret dX8_textTold_20 hf
def f_X8_why (a0 : Int32) (μ : Mem) : Option (Int32) :=
  bn1 (f_X8_isIn a0.toInt64 0 2) fun v1 =>
  if v1 = 0 then
    some (-1000000001)
  else
    bn1 (f_X8_counts a0 μ) fun v2 =>
    bn1 (f_X8_orNone v2) fun v3 =>
    some v3
set_option maxRecDepth 100000 in
set_option maxHeartbeats 4000000 in
theorem c_X8_why {Y : SYS} (hM : IsM Y) {a0 : Int32} {μ : Mem} {x : Int32} (hf : f_X8_why a0 μ = some x) : KC Y yX8_why cX8_why 2 (some .int) 2 [.ref (sq Y 0), .int a0] μ (some (.int x)) μ := by
  refine KC.I RX8 [(0, .ref (sq Y 0)), (1, .int a0)] (by decide) rfl (Nat.le_of_ble_eq_true rfl) rfl (fun G Γ ret => ?_)
  unfold f_X8_why at hf
  refine g_iload_n Γ (pc := 0) 1 dX8_why_0 rfl rfl ?_
  refine g_i2l Γ (pc := 1) dX8_why_1 ?_
  refine g_lconst Γ (pc := 2) (v := 0) dX8_why_2 rfl ?_
  refine g_ldc2 Γ (pc := 3) dX8_why_3 kL_X8_147 ?_
  obtain ⟨v1, h1, hf⟩ := bn1_i hf
  refine g_callSI Γ (pc := 6) (as := [.long a0.toInt64, .long 0, .long 2]) (st := []) dX8_why_6 (c_X8_isIn h1) mi_X8_isIn ms_X8_isIn kM_X8_65 rfl ⟨Nat.le_of_ble_eq_true rfl, Nat.le_of_ble_eq_true rfl⟩ rfl (Nat.le_of_ble_eq_true rfl) ?_
  refine g_if_eq Γ (pc := 9) (tgt := 23) dX8_why_9 rfl hf (fun hf => ?_) (fun hf => ?_)
  · refine g_ldc Γ (pc := 23) dX8_why_23 kK_X8_78 ?_
    exact rIr ret dX8_why_25 hf
  · refine g_aload_n Γ (pc := 12) 0 dX8_why_12 rfl rfl ?_
    refine g_iload_n Γ (pc := 13) 1 dX8_why_13 rfl rfl ?_
    obtain ⟨v2, h1, hf⟩ := bn1_i hf
    refine g_callVI Γ (pc := 14) (as := [.int a0]) (st := []) dX8_why_14 (c_X8_counts hM h1) (M_obj hM) rfl mi_X8_counts mv_X8_counts kM_X8_104 rfl ⟨Nat.le_of_ble_eq_true rfl, Nat.le_of_ble_eq_true rfl⟩ rfl (Nat.le_of_ble_eq_true rfl) ?_
    obtain ⟨v3, h1, hf⟩ := bn1_i hf
    refine g_callSI Γ (pc := 17) (as := [.int v2]) (st := []) dX8_why_17 (c_X8_orNone h1) mi_X8_orNone ms_X8_orNone kM_X8_179 rfl ⟨Nat.le_of_ble_eq_true rfl, Nat.le_of_ble_eq_true rfl⟩ rfl (Nat.le_of_ble_eq_true rfl) ?_
    refine g_goto Γ (pc := 20) (tgt := 25) dX8_why_20 rfl ?_
    exact rIr ret dX8_why_25 hf
def f_X8_isSheet (a0 : Int32) : Option (Int32) :=
  bn1 (f_X8_isIn a0.toInt64 0 3) fun v1 =>
  zM v1
set_option maxRecDepth 100000 in
set_option maxHeartbeats 4000000 in
theorem c_X8_isSheet {Y : SYS} {a0 : Int32} {μ : Mem} {x : Int32} (hf : f_X8_isSheet a0 = some x) : KC Y yX8_isSheet cX8_isSheet 1 (some .boolean) 1 [.int a0] μ (some (.int x)) μ := by
  refine KC.Z RX8 [(0, .int a0)] (by decide) rfl (Nat.le_of_ble_eq_true rfl) rfl (fun G Γ ret => ?_)
  unfold f_X8_isSheet at hf
  refine g_iload_n Γ (pc := 0) 0 dX8_isSheet_0 rfl rfl ?_
  refine g_i2l Γ (pc := 1) dX8_isSheet_1 ?_
  refine g_lconst Γ (pc := 2) (v := 0) dX8_isSheet_2 rfl ?_
  refine g_ldc2 Γ (pc := 3) dX8_isSheet_3 kL_X8_135 ?_
  obtain ⟨v1, h1, hf⟩ := bn1_i hf
  refine g_callSI Γ (pc := 6) (as := [.long a0.toInt64, .long 0, .long 3]) (st := []) dX8_isSheet_6 (c_X8_isIn h1) mi_X8_isIn ms_X8_isIn kM_X8_65 rfl ⟨Nat.le_of_ble_eq_true rfl, Nat.le_of_ble_eq_true rfl⟩ rfl (Nat.le_of_ble_eq_true rfl) ?_
  exact rZr ret dX8_isSheet_9 hf
def f_X8_sheet_K69_95 (a0 : Int32) (m6 : Mem) : Option (Int32 × Mem) :=
  bn1 (ldM (m6 5) 4 a0) fun v7 =>
  some (v7, m6)
def f_X8_sheet_L69 (a0 : Int32) (x4_8 : Int32) (m9 : Mem) : Option ((Int32 × Mem) ⊕ Mem) :=
  if 24 ≤ x4_8 then
    some (.inr m9)
  else
    bn1 (stM m9 6 96 ((24 * a0) + x4_8) 0) fun m10 =>
    some (.inl (x4_8 + 1, m10))
def f_X8_sheet_J65 (a0 : Int32) (m3 : Mem) (s4 : Int32) : Option (Int32 × Mem) :=
  bn1 (stM m3 5 4 a0 s4) fun m5 =>
  bn1 (lpF (fun v => f_X8_sheet_L69 a0 v.1 v.2) 4000 (0, m5)) (fun x => f_X8_sheet_K69_95 a0 x)
def f_X8_sheet_J44 (a0 : Int32) (a1 : Int32) (a2 : Int32) (μ : Mem) : Option (Int32 × Mem) :=
  bn1 (stM μ 4 4 a0 a1) fun m3 =>
  if 0 ≤ a1 then
    f_X8_sheet_J65 a0 m3 a2
  else
    f_X8_sheet_J65 a0 m3 0
def f_X8_sheet_J32 (a0 : Int32) (a1 : Int32) (a2 : Int32) (μ : Mem) : Option (Int32 × Mem) :=
  if a1 < 0 then
    f_X8_sheet_J44 a0 a1 a2 μ
  else
    if 0 ≤ a2 then
      f_X8_sheet_J44 a0 a1 a2 μ
    else
      some ((-1000000014), μ)
def f_X8_sheet (a0 : Int32) (a1 : Int32) (a2 : Int32) (μ : Mem) : Option (Int32 × Mem) :=
  bn1 (f_X8_isSheet a0) fun v1 =>
  if v1 = 0 then
    some ((-1000000001), μ)
  else
    bn1 (f_X8_isIn a1.toInt64 (-1) 1) fun v2 =>
    if v2 = 0 then
      some ((-1000000001), μ)
    else
      if a1 < 0 then
        f_X8_sheet_J32 a0 a1 a2 μ
      else
        if a2 ≤ 24 then
          f_X8_sheet_J32 a0 a1 a2 μ
        else
          some ((-1000000001), μ)
set_option maxRecDepth 100000 in
set_option maxHeartbeats 4000000 in
theorem c_X8_sheet {Y : SYS} (hM : IsM Y) {a0 : Int32} {a1 : Int32} {a2 : Int32} {μ : Mem} {x : Int32} {m : Mem} (hf : f_X8_sheet a0 a1 a2 μ = some (x, m)) : KC Y yX8_sheet cX8_sheet 5 (some .int) 2 [.ref (sq Y 0), .int a0, .int a1, .int a2] μ (some (.int x)) m := by
  refine KC.I RX8 [(0, .ref (sq Y 0)), (1, .int a0), (2, .int a1), (3, .int a2)] (by decide) rfl (Nat.le_of_ble_eq_true rfl) rfl (fun G Γ ret => ?_)
  unfold f_X8_sheet at hf
  refine g_iload_n Γ (pc := 0) 1 dX8_sheet_0 rfl rfl ?_
  obtain ⟨v1, h1, hf⟩ := bn1_i hf
  refine g_callSI Γ (pc := 1) (as := [.int a0]) (st := []) dX8_sheet_1 (c_X8_isSheet h1) mi_X8_isSheet ms_X8_isSheet kM_X8_314 rfl ⟨Nat.le_of_ble_eq_true rfl, Nat.le_of_ble_eq_true rfl⟩ rfl (Nat.le_of_ble_eq_true rfl) ?_
  refine g_if_eq Γ (pc := 4) (tgt := 29) dX8_sheet_4 rfl hf (fun hf => ?_) (fun hf => ?_)
  · refine g_ldc Γ (pc := 29) dX8_sheet_29 kK_X8_78 ?_
    exact rI ret dX8_sheet_31 hf
  · refine g_iload_n Γ (pc := 7) 2 dX8_sheet_7 rfl rfl ?_
    refine g_i2l Γ (pc := 8) dX8_sheet_8 ?_
    refine g_ldc2 Γ (pc := 9) dX8_sheet_9 kL_X8_317 ?_
    refine g_lconst Γ (pc := 12) (v := 1) dX8_sheet_12 rfl ?_
    obtain ⟨v2, h1, hf⟩ := bn1_i hf
    refine g_callSI Γ (pc := 13) (as := [.long a1.toInt64, .long (-1), .long 1]) (st := []) dX8_sheet_13 (c_X8_isIn h1) mi_X8_isIn ms_X8_isIn kM_X8_65 rfl ⟨Nat.le_of_ble_eq_true rfl, Nat.le_of_ble_eq_true rfl⟩ rfl (Nat.le_of_ble_eq_true rfl) ?_
    refine g_if_eq Γ (pc := 16) (tgt := 29) dX8_sheet_16 rfl hf (fun hf => ?_) (fun hf => ?_)
    · refine g_ldc Γ (pc := 29) dX8_sheet_29 kK_X8_78 ?_
      exact rI ret dX8_sheet_31 hf
    · refine g_iload_n Γ (pc := 19) 2 dX8_sheet_19 rfl rfl ?_
      have J_32 : f_X8_sheet_J32 a0 a1 a2 μ = some (x, m) → G 32 [(0, .ref (sq Y 0)), (1, .int a0), (2, .int a1), (3, .int a2)] [] μ := by
        intro hf
        unfold f_X8_sheet_J32 at hf
        refine g_iload_n Γ (pc := 32) 2 dX8_sheet_32 rfl rfl ?_
        have J_44 : f_X8_sheet_J44 a0 a1 a2 μ = some (x, m) → G 44 [(0, .ref (sq Y 0)), (1, .int a0), (2, .int a1), (3, .int a2)] [] μ := by
          intro hf
          unfold f_X8_sheet_J44 at hf
          refine g_aload_n Γ (pc := 44) 0 dX8_sheet_44 rfl rfl ?_
          refine g_get Γ (pc := 45) (v := .ref (sq Y 4)) dX8_sheet_45 (M_obj hM) fr_X8_19 rfl ?_
          refine g_iload_n Γ (pc := 48) 1 dX8_sheet_48 rfl rfl ?_
          refine g_iload_n Γ (pc := 49) 2 dX8_sheet_49 rfl rfl ?_
          refine g_iast Γ (pc := 50) dX8_sheet_50 (M_4 hM) hf (fun m3 hf => ?_)
          refine g_aload_n Γ (pc := 51) 0 dX8_sheet_51 rfl rfl ?_
          refine g_get Γ (pc := 52) (v := .ref (sq Y 5)) dX8_sheet_52 (M_obj hM) fr_X8_22 rfl ?_
          refine g_iload_n Γ (pc := 55) 1 dX8_sheet_55 rfl rfl ?_
          refine g_iload_n Γ (pc := 56) 2 dX8_sheet_56 rfl rfl ?_
          have J_65 : ∀ (s4 : Int32), f_X8_sheet_J65 a0 m3 s4 = some (x, m) → G 65 [(0, .ref (sq Y 0)), (1, .int a0)] [.int s4, .int a0, .ref (sq Y 5)] m3 := by
            intro s4 hf
            unfold f_X8_sheet_J65 at hf
            refine g_iast Γ (pc := 65) dX8_sheet_65 (M_5 hM) hf (fun m5 hf => ?_)
            refine g_iconst Γ (pc := 66) (v := 0) dX8_sheet_66 rfl ?_
            refine g_istore Γ (pc := 67) (lv' := [(4, .int 0), (0, .ref (sq Y 0)), (1, .int a0)]) dX8_sheet_67 (by decide) rfl ?_
            have K_69_95 : ∀ (m6 : Mem), f_X8_sheet_K69_95 a0 m6 = some (x, m) → G 95 [(0, .ref (sq Y 0)), (1, .int a0)] [] m6 := by
              intro m6 hf
              unfold f_X8_sheet_K69_95 at hf
              refine g_aload_n Γ (pc := 95) 0 dX8_sheet_95 rfl rfl ?_
              refine g_get Γ (pc := 96) (v := .ref (sq Y 5)) dX8_sheet_96 (M_obj hM) fr_X8_22 rfl ?_
              refine g_iload_n Γ (pc := 99) 1 dX8_sheet_99 rfl rfl ?_
              refine g_iald Γ (pc := 100) dX8_sheet_100 (M_5 hM) hf (fun v7 hf => ?_)
              exact rI ret dX8_sheet_101 hf
            refine g_sub Γ [1, 2, 0] rfl ?_
            refine lpF_s (P := fun (v : Int32 × Mem) => G 69 [(0, .ref (sq Y 0)), (1, .int a0), (4, .int v.1)] [] v.2) hf (fun v z1 hf kI1 kX1 => ?_)
            obtain ⟨x4_8, m9⟩ := v
            replace hf : f_X8_sheet_L69 a0 x4_8 m9 = some z1 := hf
            show G 69 [(0, .ref (sq Y 0)), (1, .int a0), (4, .int x4_8)] [] m9
            unfold f_X8_sheet_L69 at hf
            refine g_iload Γ (pc := 69) 2 dX8_sheet_69 rfl ?_
            refine g_bipush Γ (pc := 71) (v := 24) dX8_sheet_71 rfl ?_
            refine g_icmp_ge Γ (pc := 73) (tgt := 95) dX8_sheet_73 rfl hf (fun hf => ?_) (fun hf => ?_)
            · refine g_sub Γ [0, 1] rfl ?_
              exact K_69_95 m9 (kX1 m9 (Option.some.inj hf).symm)
            · refine g_aload_n Γ (pc := 76) 0 dX8_sheet_76 rfl rfl ?_
              refine g_get Γ (pc := 77) (v := .ref (sq Y 6)) dX8_sheet_77 (M_obj hM) fr_X8_25 rfl ?_
              refine g_bipush Γ (pc := 80) (v := 24) dX8_sheet_80 rfl ?_
              refine g_iload_n Γ (pc := 82) 1 dX8_sheet_82 rfl rfl ?_
              refine g_imul Γ (pc := 83) dX8_sheet_83 ?_
              refine g_iload Γ (pc := 84) 2 dX8_sheet_84 rfl ?_
              refine g_iadd Γ (pc := 86) dX8_sheet_86 ?_
              refine g_iconst Γ (pc := 87) (v := 0) dX8_sheet_87 rfl ?_
              refine g_iast Γ (pc := 88) dX8_sheet_88 (M_6 hM) hf (fun m10 hf => ?_)
              refine g_iinc Γ (pc := 89) (v := x4_8 + 1) (lv' := [(4, .int (x4_8 + 1)), (0, .ref (sq Y 0)), (1, .int a0)]) 2 dX8_sheet_89 rfl rfl (by decide) rfl ?_
              refine g_goto Γ (pc := 92) (tgt := 69) dX8_sheet_92 rfl ?_
              refine g_sub Γ [1, 2, 0] rfl ?_
              exact kI1 (x4_8 + 1, m10) (Option.some.inj hf).symm
          refine g_if_ge Γ (pc := 57) (tgt := 64) dX8_sheet_57 rfl hf (fun hf => ?_) (fun hf => ?_)
          · refine g_iload_n Γ (pc := 64) 3 dX8_sheet_64 rfl rfl ?_
            refine g_sub Γ [0, 1] rfl ?_
            exact J_65 a2 hf
          · refine g_iconst Γ (pc := 60) (v := 0) dX8_sheet_60 rfl ?_
            refine g_goto Γ (pc := 61) (tgt := 65) dX8_sheet_61 rfl ?_
            refine g_sub Γ [0, 1] rfl ?_
            exact J_65 0 hf
        refine g_if_lt Γ (pc := 33) (tgt := 44) dX8_sheet_33 rfl hf (fun hf => ?_) (fun hf => ?_)
        · refine g_sub Γ [0, 1, 2, 3] rfl ?_
          exact J_44 hf
        · refine g_iload_n Γ (pc := 36) 3 dX8_sheet_36 rfl rfl ?_
          refine g_if_ge Γ (pc := 37) (tgt := 44) dX8_sheet_37 rfl hf (fun hf => ?_) (fun hf => ?_)
          · refine g_sub Γ [0, 1, 2, 3] rfl ?_
            exact J_44 hf
          · refine g_ldcw Γ (pc := 40) dX8_sheet_40 kK_X8_319 ?_
            exact rI ret dX8_sheet_43 hf
      refine g_if_lt Γ (pc := 20) (tgt := 32) dX8_sheet_20 rfl hf (fun hf => ?_) (fun hf => ?_)
      · refine g_sub Γ [0, 1, 2, 3] rfl ?_
        exact J_32 hf
      · refine g_iload_n Γ (pc := 23) 3 dX8_sheet_23 rfl rfl ?_
        refine g_bipush Γ (pc := 24) (v := 24) dX8_sheet_24 rfl ?_
        refine g_icmp_le Γ (pc := 26) (tgt := 32) dX8_sheet_26 rfl hf (fun hf => ?_) (fun hf => ?_)
        · refine g_sub Γ [0, 1, 2, 3] rfl ?_
          exact J_32 hf
        · refine g_ldc Γ (pc := 29) dX8_sheet_29 kK_X8_78 ?_
          exact rI ret dX8_sheet_31 hf
