/-! SLOTS -/
def L1 (μ ν : Mem) (i : Nat) : Prop := μ (51 + 3 * i) 1 = ν 7 i ∧ (ν 7 i = 0 ∨ (ν 7 i = 1 ∧ (∃ z, z ≤ 5 ∧ μ (51 + 3 * i) 2 = nI z) ∧ ν 8 i = μ (51 + 3 * i) 2 ∧ f_X1_worth (μ (51 + 3 * i) 2) (μ (51 + 3 * i) 3) = some (ν 9 i)) ∨ (ν 7 i = 2 ∧ (∃ z, z ≤ 24 ∧ ν 10 i = nI z) ∧ μ (51 + 3 * i + 1) 2 = ν 10 i ∧ ∀ j, j < 24 → μ (51 + 3 * i + 1 + 1) j = ν 11 (24 * i + j)) ∨ (ν 7 i = 3 ∧ μ (51 + 3 * i) 4 = ν 8 i))
theorem L1.of {μ ν μ' ν' : Mem} {i : Nat} (h : L1 μ ν i) (a : μ' (51 + 3 * i) = μ (51 + 3 * i)) (b : μ' (51 + 3 * i + 1) = μ (51 + 3 * i + 1)) (c : μ' (51 + 3 * i + 1 + 1) = μ (51 + 3 * i + 1 + 1)) (d : ν' 7 i = ν 7 i) (e : ν' 8 i = ν 8 i) (f : ν' 9 i = ν 9 i) (g : ν' 10 i = ν 10 i) (k : ∀ j, j < 24 → ν' 11 (24 * i + j) = ν 11 (24 * i + j)) : L1 μ' ν' i := by
  unfold L1
  rw [a, b, c, d, e, f, g]
  obtain ⟨h1, h2⟩ := h
  refine ⟨h1, ?_⟩
  rcases h2 with h | h | ⟨h3, h4, h5, h6⟩ | h
  · exact Or.inl h
  · exact Or.inr (Or.inl h)
  · exact Or.inr (Or.inr (Or.inl ⟨h3, h4, h5, fun j hj => by rw [k j hj]; exact h6 j hj⟩))
  · exact Or.inr (Or.inr (Or.inr h))
theorem Rel.slots {μ ν μ' ν' : Mem} (h : Rel μ ν) (hc : ∀ i, ¬ (51 ≤ i ∧ i ≤ 65) → μ' i = μ i) (hm : ∀ i, ¬ (7 ≤ i ∧ i ≤ 11) → ν' i = ν i) (hs : RSlot μ' ν') : Rel μ' ν' := by
  obtain ⟨h1, h2, k3, -, k5⟩ := h
  exact ⟨h1.of (by rw [hc 0 (by omega)]) (fun i i1 i2 i3 => hc i (by omega)) (by rw [hm 0 (by omega)]) (hm 1 (by omega)) (hm 2 (by omega)),
    h2.of (by rw [hc 38 (by omega)]) (hc 39 (by omega)) (by rw [hm 0 (by omega)]) (hm 13 (by omega)),
    k3.of (fun i i1 i2 => hc i (by omega)) (hm 4 (by omega)) (hm 5 (by omega)) (hm 6 (by omega)), hs,
    k5.of (by rw [hc 0 (by omega)]) (hc 66 (by omega)) (by rw [hm 0 (by omega)]) (hm 17 (by omega))⟩
theorem noSlot_C (x : Int32) : f_X7_isNoSlot x = some (if 0 ≤ x.toInt ∧ x.toInt ≤ 4 then 0 else 1) := by
  unfold f_X7_isNoSlot
  rw [o0_4, bs, zM_if (Or.inl rfl) (Or.inr rfl)]
theorem slot_M (x : Int32) : f_X8_isSlot x = some (if 0 ≤ x.toInt ∧ x.toInt ≤ 4 then 1 else 0) := by
  unfold f_X8_isSlot
  rw [n0_4, bs, zM_if (Or.inr rfl) (Or.inl rfl)]
theorem i93 (x : Int32) : (99 - x) - 6 = 93 - x := by
  apply Int32.toBitVec_inj.1
  show ((99#32 - x.toBitVec) - 6#32) = 93#32 - x.toBitVec
  rw [BitVec.sub_eq_add_neg, BitVec.sub_eq_add_neg, BitVec.sub_eq_add_neg, BitVec.add_assoc, BitVec.add_comm (-x.toBitVec), ← BitVec.add_assoc]
  rfl
theorem worth_M {a : AT} {ν : Mem} (hV : AV a) (h : AM a (ν 1)) {k : Nat} (hk : k < tN a) : f_X8_worth (nI k) ν = f_X1_worth (tK a k) (tP a k) := by
  unfold f_X8_worth f_X1_worth
  rw [of_2 hV h hk, bs, of_0 hV h hk, bs, i93]
theorem worth_s (x y : Int32) : ∃ v, f_X1_worth x y = some v := by
  unfold f_X1_worth
  repeat' split
  all_goals exact ⟨_, rfl⟩
theorem L1_set {μ ν μ' ν' : Mem} (h : RSlot μ ν) {i : Nat} (hi : i < 5) (hc : ∀ j, j ≠ 51 + 3 * i → j ≠ 51 + 3 * i + 1 → j ≠ 51 + 3 * i + 1 + 1 → μ' j = μ j) (hm : ∀ k, k ≠ i → ν' 7 k = ν 7 k ∧ ν' 8 k = ν 8 k ∧ ν' 9 k = ν 9 k ∧ ν' 10 k = ν 10 k ∧ ∀ j, j < 24 → ν' 11 (24 * k + j) = ν 11 (24 * k + j)) (h1 : L1 μ' ν' i) : RSlot μ' ν' := by
  intro k hk
  by_cases e : k = i
  · rw [e]; exact h1
  · obtain ⟨m1, m2, m3, m4, m5⟩ := hm k e
    exact L1.of (h k hk) (hc _ (by omega) (by omega) (by omega)) (hc _ (by omega) (by omega) (by omega)) (hc _ (by omega) (by omega) (by omega)) m1 m2 m3 m4 m5
/-- what the reference's lay has written -/
def M3 (ν : Mem) (i : Nat) (v w u : Int32) : Mem := mset (mset (mset ν 7 i v) 8 i w) 9 i u
theorem M3_o (ν : Mem) (i : Nat) (v w u : Int32) {j : Nat} (h7 : j ≠ 7) (h8 : j ≠ 8) (h9 : j ≠ 9) : M3 ν i v w u j = ν j := by
  unfold M3
  rw [mset_n h9, mset_n h8, mset_n h7]
theorem M3_7 (ν : Mem) (i : Nat) (v w u : Int32) : M3 ν i v w u 7 = upd (ν 7) i v := by
  unfold M3
  rw [mset_n (by omega), mset_n (by omega), mset_s]
theorem M3_8 (ν : Mem) (i : Nat) (v w u : Int32) : M3 ν i v w u 8 = upd (ν 8) i w := by
  unfold M3
  rw [mset_n (by omega), mset_s, mset_n (by omega)]
theorem M3_9 (ν : Mem) (i : Nat) (v w u : Int32) : M3 ν i v w u 9 = upd (ν 9) i u := by
  unfold M3
  rw [mset_s, mset_n (by omega), mset_n (by omega)]
theorem M3_m (ν : Mem) {i k : Nat} (v w u : Int32) (h : k ≠ i) : M3 ν i v w u 7 k = ν 7 k ∧ M3 ν i v w u 8 k = ν 8 k ∧ M3 ν i v w u 9 k = ν 9 k ∧ M3 ν i v w u 10 k = ν 10 k ∧ ∀ j, j < 24 → M3 ν i v w u 11 (24 * k + j) = ν 11 (24 * k + j) := by
  rw [M3_7, M3_8, M3_9, pk_un h, pk_un h, pk_un h, M3_o ν i v w u (by omega) (by omega) (by omega), M3_o ν i v w u (by omega) (by omega) (by omega)]
  exact ⟨rfl, rfl, rfl, rfl, fun _ _ => rfl⟩
theorem layM0 (ν : Mem) {i : Nat} (hi : i < 5) {x y : Int32} (h1 : ¬ x = 1) (h2 : ¬ x = 2) : f_X8_lay_J74 (nI i) x y ν = some (ν 7 i, M3 ν i x y 0) := by
  unfold f_X8_lay_J74 f_X8_lay_J109 f_X8_lay_J129
  rw [ldM_n hi (by omega), bs, stM_n hi (by omega), bs, if_neg h1, stM_n hi (by omega), bs, if_neg h1, stM_n hi (by omega), bs, if_neg h2]
  rfl
theorem layM1 {a : AT} {ν : Mem} (hV : AV a) (h : AM a (ν 1)) {i k : Nat} (hi : i < 5) (hk : k < tN a) {u : Int32} (hu : f_X1_worth (tK a k) (tP a k) = some u) : f_X8_lay_J74 (nI i) 1 (nI k) ν = some (ν 7 i, M3 ν i 1 (tK a k) u) := by
  unfold f_X8_lay_J74 f_X8_lay_J109 f_X8_lay_J129
  rw [ldM_n hi (by omega), bs, stM_n hi (by omega), bs, if_pos rfl, of_0 (a := a) hV (by rw [mset_n (by omega)]; exact h) hk, bs, stM_n hi (by omega), bs, if_pos rfl, worth_M (a := a) hV (by rw [mset_n (by omega), mset_n (by omega)]; exact h) hk, hu, bs, stM_n hi (by omega), bs, if_neg (by decide)]
  rfl
theorem layM2 (ν : Mem) {i k : Nat} (hi : i < 5) (hk : k < 4) : f_X8_lay_J74 (nI i) 2 (nI k) ν = some (ν 7 i, mrow (mset (M3 ν i 2 (nI k) 0) 10 i (ν 5 k)) 11 (fun r => if 24 * i ≤ r ∧ r < 24 * i + 24 then ν 6 (24 * k + (r - 24 * i)) else ν 11 r)) := by
  unfold f_X8_lay_J74 f_X8_lay_J109 f_X8_lay_J129
  rw [ldM_n hi (by omega), bs, stM_n hi (by omega), bs, if_neg (by decide), stM_n hi (by omega), bs, if_neg (by decide), stM_n hi (by omega), bs, if_pos rfl, ldM_n hk (by omega), bs, stM_n hi (by omega), bs]
  rw [show mset (mset (mset (mset ν 7 i 2) 8 i (nI k)) 9 i 0) 10 i (mset (mset (mset ν 7 i 2) 8 i (nI k)) 9 i 0 5 k) = mset (M3 ν i 2 (nI k) 0) 10 i (ν 5 k) from by
    show mset (M3 ν i 2 (nI k) 0) 10 i (M3 ν i 2 (nI k) 0 5 k) = _
    rw [M3_o _ _ _ _ _ (by omega) (by omega) (by omega)]]
  have e6 : ∀ f, (mrow (mset (M3 ν i 2 (nI k) 0) 10 i (ν 5 k)) 11 f) 6 = ν 6 := fun f => by rw [mrow_n (by omega), mset_n (by omega), M3_o _ _ _ _ _ (by omega) (by omega) (by omega)]
  refine (bl (fun q => (nI q, mrow (mset (M3 ν i 2 (nI k) 0) 10 i (ν 5 k)) 11 (fun r => if 24 * i ≤ r ∧ r < 24 * i + q then ν 6 (24 * k + (r - 24 * i)) else ν 11 r))) (mrow (mset (M3 ν i 2 (nI k) 0) 10 i (ν 5 k)) 11 (fun r => if 24 * i ≤ r ∧ r < 24 * i + 24 then ν 6 (24 * k + (r - 24 * i)) else ν 11 r)) 24 ?_ (by omega) (fun q hq => ?_) ?_).trans rfl
  · rw [show (fun r => if 24 * i ≤ r ∧ r < 24 * i + 0 then ν 6 (24 * k + (r - 24 * i)) else ν 11 r) = (mset (M3 ν i 2 (nI k) 0) 10 i (ν 5 k)) 11 from by
      funext r
      rw [if_neg (by omega), mset_n (by omega), M3_o _ _ _ _ _ (by omega) (by omega) (by omega)], mrow_id]
    rfl
  · show f_X8_lay_L150 (nI i) (nI k) (nI q) (mrow (mset (M3 ν i 2 (nI k) 0) 10 i (ν 5 k)) 11 (fun r => if 24 * i ≤ r ∧ r < 24 * i + q then ν 6 (24 * k + (r - 24 * i)) else ν 11 r)) = _
    unfold f_X8_lay_L150
    rw [if_neg (show ¬ (24 : Int32) ≤ nI q from nI_ge (b := 24) hq (by omega)), e6, show (24 : Int32) * nI k + nI q = nI (24 * k + q) from by show nI 24 * nI k + nI q = _; rw [pk_mul, nI_add], ldM_n (by omega) (by omega), bs, show (24 : Int32) * nI i + nI q = nI (24 * i + q) from by show nI 24 * nI i + nI q = _; rw [pk_mul, nI_add], stM_n (by omega) (by omega), bs, mset_mrow, nI_1]
    congr 4
    funext r
    by_cases e : r = 24 * i + q
    · rw [e, pk_us, if_pos (by omega)]
      congr 1
      omega
    · rw [pk_un e]
      by_cases c : 24 * i ≤ r ∧ r < 24 * i + q
      · rw [if_pos c, if_pos (by omega)]
      · rw [if_neg c, if_neg (by omega)]
  · exact if_pos (show (24 : Int32) ≤ nI 24 by decide)
theorem slot_n {i : Nat} (hi : i < 5) : f_X8_isSlot (nI i) = some 1 := by
  rw [slot_M, nI_toInt (by omega), if_pos (show (0 : Int) ≤ (i : Int) ∧ (i : Int) ≤ 4 by omega)]
theorem layJ34 {ν : Mem} {i : Nat} (hi : i < 5) (x y : Int32) : f_X8_lay_J34 (nI i) x y ν = if x = 2 then bn1 (ldM (ν 4) 4 y) (fun v18 => if 0 ≤ v18 then f_X8_lay_J74 (nI i) x y ν else some (-1000000011, ν)) else f_X8_lay_J74 (nI i) x y ν := by
  unfold f_X8_lay_J34 f_X8_lay_J39
  rw [slot_n hi, bs, if_neg (show ¬ (1 : Int32) = 0 by decide), if_neg (show ¬ (1 : Int32) = 0 by decide)]
theorem layJ38 {ν : Mem} {i : Nat} (hi : i < 5) (x y : Int32) : f_X8_lay_J38 (nI i) x y ν = some (-1000000001, ν) := by
  unfold f_X8_lay_J38 f_X8_lay_J39
  rw [slot_n hi, bs, if_neg (show ¬ (1 : Int32) = 0 by decide), if_pos rfl]
theorem layJ_n {ν : Mem} {x : Int32} (h : ¬ (0 ≤ x.toInt ∧ x.toInt ≤ 4)) (y z s : Int32) : f_X8_lay_J39 x y z ν s = some (-1000000001, ν) := by
  unfold f_X8_lay_J39
  rw [slot_M, bs, if_neg h, if_pos rfl]
theorem Step_32 : Step Rel C7_32 C8_32 := by
  intro a μ ν hR
  obtain ⟨t, hV, hY, hC, hM⟩ := hR.tw
  have hn := hV.1
  have hL := hR.2.2.2.1
  have hS := hR.2.2.1
  unfold C7_32 C8_32 f_X7_lay f_X8_lay
  simp only [noSlot_C, bs, i01]
  by_cases h1 : 0 ≤ (a 1).toInt ∧ (a 1).toInt ≤ 4
  · obtain ⟨i, hi, e1⟩ := upto (n := 4) h1 rfl
    have hi5 : i < 5 := by omega
    rw [if_pos h1, o0_3, bs, i01, e1, layJ34 hi5]
    have ans := (hL i hi5).1
    by_cases k0 : a 2 = 0
    · rw [k0]
      unfold f_X7_lay_J32 f_X7_lay_J47 f_X7_lay_J67
      rw [if_pos (show (0 : Int) ≤ (0 : Int32).toInt ∧ (0 : Int32).toInt ≤ 3 by decide), if_neg (show ¬ (0 : Int32) = 1 by decide), if_neg (show ¬ (0 : Int32) = 2 by decide), if_neg (show ¬ (0 : Int32) = 2 by decide), rdM_n hi5 (by omega), bs, nms, if_neg (show ¬ (0 : Int32) = 1 by decide), if_neg (show ¬ (0 : Int32) = 2 by decide), if_neg (show ¬ (0 : Int32) = 3 by decide), if_pos rfl, if_neg (show ¬ (0 : Int32) = 2 by decide), layM0 ν hi5 (by decide) (by decide)]
      refine ⟨ν 7 i, mset μ (51 + 3 * i) 1 0, _, by rw [ans], rfl, hR.slots (fun j hj => mset_n (by omega)) (fun j hj => M3_o _ _ _ _ _ (by omega) (by omega) (by omega)) (L1_set hL hi5 (fun j j1 j2 j3 => mset_n j1) (fun k hk => M3_m ν _ _ _ hk) ⟨?_, Or.inl ?_⟩)⟩
      · rw [mset_ss, M3_7, pk_us]
      · rw [M3_7, pk_us]
    · by_cases k3 : a 2 = 3
      · rw [k3]
        unfold f_X7_lay_J32 f_X7_lay_J47 f_X7_lay_J67
        rw [if_pos (show (0 : Int) ≤ (3 : Int32).toInt ∧ (3 : Int32).toInt ≤ 3 by decide), if_neg (show ¬ (3 : Int32) = 1 by decide), if_neg (show ¬ (3 : Int32) = 2 by decide), if_neg (show ¬ (3 : Int32) = 2 by decide), rdM_n hi5 (by omega), bs, nms, if_neg (show ¬ (3 : Int32) = 1 by decide), if_neg (show ¬ (3 : Int32) = 2 by decide), if_pos rfl, nms, if_neg (show ¬ (3 : Int32) = 0 by decide), if_pos rfl, if_neg (show ¬ (3 : Int32) = 2 by decide), layM0 ν hi5 (by decide) (by decide)]
        refine ⟨ν 7 i, _, _, by rw [ans], rfl, hR.slots (fun j hj => by rw [mset_n (by omega), mset_n (by omega)]) (fun j hj => M3_o _ _ _ _ _ (by omega) (by omega) (by omega)) (L1_set hL hi5 (fun j j1 j2 j3 => by rw [mset_n j1, mset_n j1]) (fun k hk => M3_m ν _ _ _ hk) ⟨?_, Or.inr (Or.inr (Or.inr ⟨?_, ?_⟩))⟩)⟩
        · rw [mset_sn (by omega), mset_ss, M3_7, pk_us]
        · rw [M3_7, pk_us]
        · rw [mset_ss, M3_8, pk_us]
      · by_cases k1 : a 2 = 1
        · rw [k1]
          rw [if_pos (show (0 : Int) ≤ (1 : Int32).toInt ∧ (1 : Int32).toInt ≤ 3 by decide), if_pos rfl, if_neg (show ¬ (1 : Int32) = 0 by decide), if_neg (show ¬ (1 : Int32) = 3 by decide), if_pos rfl, isNobody_C hV hC, bs, i01, isOne_M hV hM, bs, i10]
          by_cases h3 : 0 ≤ (a 3).toInt ∧ (a 3).toInt ≤ (tN t : Int) - 1
          · obtain ⟨k, hk, e3⟩ := isK_n (n := tN t) h3
            obtain ⟨u, hu⟩ := worth_s (tK t k) (tP t k)
            rw [if_pos h3, if_pos h3, e3]
            unfold f_X7_lay_J32 f_X7_lay_J47 f_X7_lay_J67
            rw [if_neg (show ¬ (1 : Int32) = 2 by decide), if_neg (show ¬ (1 : Int32) = 2 by decide), rdM_n hi5 (by omega), bs, nms, if_pos rfl, mset_n (j := 22) (by omega), ldM_n (by omega) (by omega), bs, nms, mset_n (j := 23) (by omega), mset_n (j := 23) (by omega), ldM_n (by omega) (by omega), bs, nms, (hC.2.2.2 k hk).1, (hC.2.2.2 k hk).2.1, if_neg (show ¬ (1 : Int32) = 2 by decide), layM1 hV hM hi5 hk hu]
            refine ⟨ν 7 i, _, _, by rw [ans], rfl, hR.slots (fun j hj => by rw [mset_n (by omega), mset_n (by omega), mset_n (by omega)]) (fun j hj => M3_o _ _ _ _ _ (by omega) (by omega) (by omega)) (L1_set hL hi5 (fun j j1 j2 j3 => by rw [mset_n j1, mset_n j1, mset_n j1]) (fun k hk => M3_m ν _ _ _ hk) ⟨?_, Or.inr (Or.inl ⟨?_, ?_, ?_, ?_⟩)⟩)⟩
            · rw [mset_sn (by omega), mset_sn (by omega), mset_ss, M3_7, pk_us]
            · rw [M3_7, pk_us]
            · rw [mset_sn (by omega), mset_ss]
              exact (hV.2.2.1 k hk).1
            · rw [mset_sn (by omega), mset_ss, M3_8, pk_us]
            · rw [mset_ss, mset_sn (by omega), mset_ss, M3_9, pk_us]
              exact hu
          · rw [if_neg h3, if_neg h3]
            unfold f_X8_lay_J22
            rw [if_neg (show ¬ (1 : Int32) = 2 by decide), layJ38 hi5]
            exact ⟨-1000000001, μ, ν, rfl, rfl, hR⟩
        · by_cases k2 : a 2 = 2
          · rw [k2]
            unfold f_X7_lay_J32 f_X8_lay_J22
            rw [if_pos (show (0 : Int) ≤ (2 : Int32).toInt ∧ (2 : Int32).toInt ≤ 3 by decide), if_neg (show ¬ (2 : Int32) = 1 by decide), if_pos rfl, if_neg (show ¬ (2 : Int32) = 0 by decide), if_neg (show ¬ (2 : Int32) = 3 by decide), if_neg (show ¬ (2 : Int32) = 1 by decide), if_pos rfl, noSheet_C, bs, i01, sheet_M, bs, i10]
            by_cases h3 : 0 ≤ (a 3).toInt ∧ (a 3).toInt ≤ 3
            · obtain ⟨k, hk, e3⟩ := upto (n := 3) h3 rfl
              obtain ⟨g1, g2, g3, g4⟩ := hS k (by omega)
              obtain ⟨z, hz, ez⟩ := szz g4
              rw [if_pos h3, if_pos h3, e3]
              unfold f_X7_lay_J47 f_X4_isMissing
              rw [if_pos rfl, rdM_n (by omega) (by omega), bs, g1, layJ34 hi5, if_pos rfl, ldM_n (by omega) (by omega), bs]
              rcases srt g4 with es | es
              · rw [es]
                exact ⟨-1000000011, μ, ν, rfl, rfl, hR⟩
              · have n1 : ¬ ν 4 k = -1 := by rcases es with es | es <;> rw [es] <;> decide
                have p0 : 0 ≤ ν 4 k := by rcases es with es | es <;> rw [es] <;> decide
                rw [if_neg n1, bs, if_pos rfl, if_pos p0, layM2 ν hi5 (by omega)]
                unfold f_X7_lay_J67 f_X4_become
                rw [rdM_n hi5 (by omega), bs, nms, if_neg (show ¬ (2 : Int32) = 1 by decide), if_pos rfl, rdM_n (by omega) (by omega), bs, nms, nms]
                have cp : ∀ m : Mem, cpM m (42 + 2 * k + 1) 24 0 (51 + 3 * i + 1 + 1) 24 0 24 = some (mrow m (51 + 3 * i + 1 + 1) (va_cpy (m (42 + 2 * k + 1)) (m (51 + 3 * i + 1 + 1)) 0 0 24)) := fun m => rfl
                rw [cp, bs, bs]
                refine ⟨ν 7 i, _, _, by rw [ans], rfl, hR.slots (fun j hj => by rw [mrow_n (by omega), mset_n (by omega), mset_n (by omega), mset_n (by omega)]) (fun j hj => by rw [mrow_n (by omega), mset_n (by omega), M3_o _ _ _ _ _ (by omega) (by omega) (by omega)]) (L1_set hL hi5 (fun j j1 j2 j3 => by rw [mrow_n j3, mset_n j2, mset_n j2, mset_n j1]) (fun q hq => ?_) ⟨?_, Or.inr (Or.inr (Or.inl ⟨?_, ?_, ?_, ?_⟩))⟩)⟩
                · obtain ⟨m1, m2, m3, m4, m5⟩ := M3_m ν 2 (nI k) 0 hq
                  rw [mrow_n (i := 11) (j := 7) (by omega), mset_n (i := 10) (j := 7) (by omega), mrow_n (i := 11) (j := 8) (by omega), mset_n (i := 10) (j := 8) (by omega), mrow_n (i := 11) (j := 9) (by omega), mset_n (i := 10) (j := 9) (by omega), mrow_n (i := 11) (j := 10) (by omega), mset_sn hq]
                  refine ⟨m1, m2, m3, m4, fun j hj => ?_⟩
                  rw [mrow_s, if_neg (by omega)]
                · rw [mrow_n (by omega), mset_n (by omega), mset_n (by omega), mset_ss, mrow_n (by omega), mset_n (by omega), M3_7, pk_us]
                · rw [mrow_n (by omega), mset_n (by omega), M3_7, pk_us]
                · rw [mrow_n (by omega), mset_ss, ez]
                  exact ⟨z, hz, rfl⟩
                · rw [mrow_n (by omega), mset_ss, mset_n (by omega), mset_n (by omega), mrow_n (by omega), mset_ss, g2]
                · intro j hj
                  rw [mrow_s, pk_cpy_in (Nat.zero_le _) (by omega), mset_n (by omega), mset_n (by omega), mset_n (by omega), mrow_s, if_pos (by omega), g3 _ (by omega)]
                  congr 1
                  omega
            · rw [if_neg h3, if_neg h3, layJ38 hi5]
              exact ⟨-1000000001, μ, ν, rfl, rfl, hR⟩
          · have n3 : ¬ (0 ≤ (a 2).toInt ∧ (a 2).toInt ≤ 3) := by
              intro w
              obtain ⟨j, hj, e⟩ := upto (x := a 2) (n := 3) w rfl
              rcases (by omega : j = 0 ∨ j = 1 ∨ j = 2 ∨ j = 3) with rfl | rfl | rfl | rfl
              · exact k0 e
              · exact k1 e
              · exact k2 e
              · exact k3 e
            unfold f_X8_lay_J22
            rw [if_neg n3, if_neg k0, if_neg k3, if_neg k1, if_neg k2, layJ38 hi5]
            exact ⟨-1000000001, μ, ν, rfl, rfl, hR⟩
  · rw [if_neg h1]
    refine ⟨-1000000001, μ, ν, rfl, ?_, hR⟩
    unfold f_X8_lay_J22 f_X8_lay_J34 f_X8_lay_J38
    simp only [layJ_n h1]
    by_cases k0 : a 2 = 0
    · rw [if_pos k0]
    · rw [if_neg k0]
      by_cases k3 : a 2 = 3
      · rw [if_pos k3]
      · rw [if_neg k3]
        by_cases k1 : a 2 = 1
        · rw [if_pos k1, isOne_M hV hM, bs, i10]
          simp only [ite_self]
          rw [if_neg (show ¬ a 2 = 2 by rw [k1]; decide), ite_self]
        · rw [if_neg k1]
          by_cases k2 : a 2 = 2
          · rw [if_pos k2, sheet_M, bs, i10]
            simp only [ite_self]
          · rw [if_neg k2]
theorem isNot_C (μ : Mem) (b : Nat) (x : Int32) : f_X5_isNot b x μ = some (if μ b 1 = 0 then -1000000011 else if μ b 1 = x then 0 else -1000000012) := by
  unfold f_X5_isNot
  split
  · rfl
  · split <;> rfl
theorem Step_33 : Step Rel C7_33 C8_33 := by
  intro a μ ν hR
  have hL := hR.2.2.2.1
  unfold C7_33 C8_33 ro f_X7_ask f_X8_ask
  simp only [noSlot_C, slot_M, o0_5, n0_5, bs, i01, i10]
  by_cases h1 : 0 ≤ (a 1).toInt ∧ (a 1).toInt ≤ 4
  · by_cases h2 : 0 ≤ (a 2).toInt ∧ (a 2).toInt ≤ 5
    · obtain ⟨i, hi, e1⟩ := upto (n := 4) h1 rfl
      obtain ⟨j, hj, e2⟩ := upto (n := 5) h2 rfl
      have hi5 : i < 5 := by omega
      simp only [if_pos h1, if_pos h2]
      rw [e1, e2, rdM_n hi5 (by omega), bs, isNot_C, bs]
      simp only [ldM_n hi5 (show 5 < 2 ^ 31 by omega), bs, rdM_n hi5 (show 5 < 2 ^ 31 by omega)]
      obtain ⟨g1, g2⟩ := hL i hi5
      rw [g1]
      rcases g2 with g | ⟨g, ⟨z, hz, ez⟩, g3, g4⟩ | ⟨g, -⟩ | ⟨g, -⟩
      · rw [g]
        exact ⟨-1000000011, μ, ν, rfl, rfl, hR⟩
      · rw [g, g3, ez, isOf_C μ hz hj, ← ez, g4, ez]
        rcases isOf_01 hz hj with h | h
        · rw [h]
          exact ⟨-1000000012, μ, ν, rfl, rfl, hR⟩
        · rw [h]
          exact ⟨ν 9 i, μ, ν, rfl, rfl, hR⟩
      · rw [g]
        exact ⟨-1000000012, μ, ν, rfl, rfl, hR⟩
      · rw [g]
        exact ⟨-1000000012, μ, ν, rfl, rfl, hR⟩
    · simp only [if_pos h1, if_neg h2]
      exact ⟨-1000000001, μ, ν, rfl, rfl, hR⟩
  · simp only [if_neg h1]
    exact ⟨-1000000001, μ, ν, rfl, rfl, hR⟩
theorem Step_34 : Step Rel C7_34 C8_34 := by
  intro a μ ν hR
  have hL := hR.2.2.2.1
  unfold C7_34 C8_34 ro f_X7_item f_X8_item
  simp only [noSlot_C, slot_M, bs, i01, i10]
  by_cases h1 : 0 ≤ (a 1).toInt ∧ (a 1).toInt ≤ 4
  · obtain ⟨i, hi, e1⟩ := upto (n := 4) h1 rfl
    have hi5 : i < 5 := by omega
    simp only [if_pos h1]
    rw [e1, rdM_n hi5 (by omega), bs, isNot_C, bs]
    simp only [ldM_n hi5 (show 5 < 2 ^ 31 by omega), bs, rdM_n hi5 (show 5 < 2 ^ 31 by omega)]
    obtain ⟨g1, g2⟩ := hL i hi5
    rw [g1]
    rcases g2 with g | ⟨g, -⟩ | ⟨g, ⟨z, hz, ez⟩, g3, g4⟩ | ⟨g, -⟩
    · rw [g]
      exact ⟨-1000000011, μ, ν, rfl, rfl, hR⟩
    · rw [g]
      exact ⟨-1000000012, μ, ν, rfl, rfl, hR⟩
    · rw [g, if_pos rfl, if_neg (show ¬ (2 : Int32) = 0 by decide), if_pos rfl, if_pos rfl, ez, inN (a 2) (show z ≤ 1000 by omega), hasNo_C (g3.trans ez) hz]
      simp only [bs, i10, i01]
      by_cases h2 : 0 ≤ (a 2).toInt ∧ (a 2).toInt ≤ (z : Int) - 1
      · obtain ⟨k, hk, e2⟩ := isK_n (n := z) h2
        rw [if_pos h2, if_pos h2, e2, isNum_C (g3.trans ez) hz hk, bs, ldM_n (by omega) (by omega), bs, show (24 : Int32) * nI i + nI k = nI (24 * i + k) from by show nI 24 * nI i + nI k = _; rw [pk_mul, nI_add], ldM_n (by omega) (by omega), bs, g4 k (by omega), i01]
        by_cases hE : ν 11 (24 * i + k) = -1000000005
        · rw [if_pos hE]
          exact ⟨-1000000012, μ, ν, rfl, rfl, hR⟩
        · rw [if_neg hE]
          exact ⟨_, μ, ν, rfl, rfl, hR⟩
      · rw [if_neg h2, if_neg h2]
        exact ⟨-1000000013, μ, ν, rfl, rfl, hR⟩
    · rw [g]
      exact ⟨-1000000012, μ, ν, rfl, rfl, hR⟩
  · simp only [if_neg h1]
    exact ⟨-1000000001, μ, ν, rfl, rfl, hR⟩
theorem Step_35 : Step Rel C7_35 C8_35 := by
  intro a μ ν hR
  have hL := hR.2.2.2.1
  unfold C7_35 C8_35 ro f_X7_rest f_X8_rest
  simp only [noSlot_C, slot_M, bs, i01, i10]
  by_cases h1 : 0 ≤ (a 1).toInt ∧ (a 1).toInt ≤ 4
  · obtain ⟨i, hi, e1⟩ := upto (n := 4) h1 rfl
    have hi5 : i < 5 := by omega
    simp only [if_pos h1]
    rw [e1, rdM_n hi5 (by omega), bs, isNot_C, bs]
    simp only [ldM_n hi5 (show 5 < 2 ^ 31 by omega), bs, rdM_n hi5 (show 5 < 2 ^ 31 by omega)]
    obtain ⟨g1, g2⟩ := hL i hi5
    rw [g1]
    rcases g2 with g | ⟨g, -⟩ | ⟨g, -⟩ | ⟨g, g3⟩
    · rw [g]
      exact ⟨-1000000011, μ, ν, rfl, rfl, hR⟩
    · rw [g]
      exact ⟨-1000000012, μ, ν, rfl, rfl, hR⟩
    · rw [g]
      exact ⟨-1000000012, μ, ν, rfl, rfl, hR⟩
    · rw [g, if_pos rfl, if_neg (show ¬ (3 : Int32) = 0 by decide), if_pos rfl, if_pos rfl, g3]
      by_cases hz : a 2 = 0
      · rw [if_pos hz]
        exact ⟨-1000000002, μ, ν, rfl, rfl, hR⟩
      · rw [if_neg hz]
        have er : rmM (ν 8 i) (a 2) = some (ν 8 i - ν 8 i / a 2 * a 2) := if_neg hz
        rw [er, bs, bs]
        exact ⟨_, μ, ν, rfl, rfl, hR⟩
  · simp only [if_neg h1]
    exact ⟨-1000000001, μ, ν, rfl, rfl, hR⟩
