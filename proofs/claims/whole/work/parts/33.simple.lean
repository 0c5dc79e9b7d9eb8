/-! BOUNDS, and the simple calls -/
theorem o0_1 (x : Int32) : f_X7_outside x 0 1 = some (if 0 ≤ x.toInt ∧ x.toInt ≤ 1 then 0 else 1) := out_L x rfl rfl
theorem n0_1 (x : Int32) : f_X8_isIn x.toInt64 0 1 = some (if 0 ≤ x.toInt ∧ x.toInt ≤ 1 then 1 else 0) := isIn_L x rfl rfl
theorem o0_2 (x : Int32) : f_X7_outside x 0 2 = some (if 0 ≤ x.toInt ∧ x.toInt ≤ 2 then 0 else 1) := out_L x rfl rfl
theorem n0_2 (x : Int32) : f_X8_isIn x.toInt64 0 2 = some (if 0 ≤ x.toInt ∧ x.toInt ≤ 2 then 1 else 0) := isIn_L x rfl rfl
theorem o0_3 (x : Int32) : f_X7_outside x 0 3 = some (if 0 ≤ x.toInt ∧ x.toInt ≤ 3 then 0 else 1) := out_L x rfl rfl
theorem n0_3 (x : Int32) : f_X8_isIn x.toInt64 0 3 = some (if 0 ≤ x.toInt ∧ x.toInt ≤ 3 then 1 else 0) := isIn_L x rfl rfl
theorem o0_4 (x : Int32) : f_X7_outside x 0 4 = some (if 0 ≤ x.toInt ∧ x.toInt ≤ 4 then 0 else 1) := out_L x rfl rfl
theorem n0_4 (x : Int32) : f_X8_isIn x.toInt64 0 4 = some (if 0 ≤ x.toInt ∧ x.toInt ≤ 4 then 1 else 0) := isIn_L x rfl rfl
theorem o0_5 (x : Int32) : f_X7_outside x 0 5 = some (if 0 ≤ x.toInt ∧ x.toInt ≤ 5 then 0 else 1) := out_L x rfl rfl
theorem n0_5 (x : Int32) : f_X8_isIn x.toInt64 0 5 = some (if 0 ≤ x.toInt ∧ x.toInt ≤ 5 then 1 else 0) := isIn_L x rfl rfl
theorem o0_9 (x : Int32) : f_X7_outside x 0 9 = some (if 0 ≤ x.toInt ∧ x.toInt ≤ 9 then 0 else 1) := out_L x rfl rfl
theorem n0_9 (x : Int32) : f_X8_isIn x.toInt64 0 9 = some (if 0 ≤ x.toInt ∧ x.toInt ≤ 9 then 1 else 0) := isIn_L x rfl rfl
theorem o0_99 (x : Int32) : f_X7_outside x 0 99 = some (if 0 ≤ x.toInt ∧ x.toInt ≤ 99 then 0 else 1) := out_L x rfl rfl
theorem n0_99 (x : Int32) : f_X8_isIn x.toInt64 0 99 = some (if 0 ≤ x.toInt ∧ x.toInt ≤ 99 then 1 else 0) := isIn_L x rfl rfl
theorem o0_100 (x : Int32) : f_X7_outside x 0 100 = some (if 0 ≤ x.toInt ∧ x.toInt ≤ 100 then 0 else 1) := out_L x rfl rfl
theorem n0_100 (x : Int32) : f_X8_isIn x.toInt64 0 100 = some (if 0 ≤ x.toInt ∧ x.toInt ≤ 100 then 1 else 0) := isIn_L x rfl rfl
theorem o1_3 (x : Int32) : f_X7_outside x 1 3 = some (if 1 ≤ x.toInt ∧ x.toInt ≤ 3 then 0 else 1) := out_L x rfl rfl
theorem n1_3 (x : Int32) : f_X8_isIn x.toInt64 1 3 = some (if 1 ≤ x.toInt ∧ x.toInt ≤ 3 then 1 else 0) := isIn_L x rfl rfl
theorem o1_10 (x : Int32) : f_X7_outside x 1 10 = some (if 1 ≤ x.toInt ∧ x.toInt ≤ 10 then 0 else 1) := out_L x rfl rfl
theorem n1_10 (x : Int32) : f_X8_isIn x.toInt64 1 10 = some (if 1 ≤ x.toInt ∧ x.toInt ≤ 10 then 1 else 0) := isIn_L x rfl rfl
theorem o1_30 (x : Int32) : f_X7_outside x 1 30 = some (if 1 ≤ x.toInt ∧ x.toInt ≤ 30 then 0 else 1) := out_L x rfl rfl
theorem n1_30 (x : Int32) : f_X8_isIn x.toInt64 1 30 = some (if 1 ≤ x.toInt ∧ x.toInt ≤ 30 then 1 else 0) := isIn_L x rfl rfl
theorem o1_60 (x : Int32) : f_X7_outside x 1 60 = some (if 1 ≤ x.toInt ∧ x.toInt ≤ 60 then 0 else 1) := out_L x rfl rfl
theorem n1_60 (x : Int32) : f_X8_isIn x.toInt64 1 60 = some (if 1 ≤ x.toInt ∧ x.toInt ≤ 60 then 1 else 0) := isIn_L x rfl rfl
theorem o1_100 (x : Int32) : f_X7_outside x 1 100 = some (if 1 ≤ x.toInt ∧ x.toInt ≤ 100 then 0 else 1) := out_L x rfl rfl
theorem n1_100 (x : Int32) : f_X8_isIn x.toInt64 1 100 = some (if 1 ≤ x.toInt ∧ x.toInt ≤ 100 then 1 else 0) := isIn_L x rfl rfl
theorem om1_1 (x : Int32) : f_X7_outside x (-1) 1 = some (if -1 ≤ x.toInt ∧ x.toInt ≤ 1 then 0 else 1) := out_L x rfl rfl
theorem nm1_1 (x : Int32) : f_X8_isIn x.toInt64 (-1) 1 = some (if -1 ≤ x.toInt ∧ x.toInt ≤ 1 then 1 else 0) := isIn_L x rfl rfl
theorem om9999_9999 (x : Int32) : f_X7_outside x (-9999) 9999 = some (if -9999 ≤ x.toInt ∧ x.toInt ≤ 9999 then 0 else 1) := out_L x rfl rfl
theorem nm9999_9999 (x : Int32) : f_X8_isIn x.toInt64 (-9999) 9999 = some (if -9999 ≤ x.toInt ∧ x.toInt ≤ 9999 then 1 else 0) := isIn_L x rfl rfl
theorem om99999_99999 (x : Int32) : f_X7_outside x (-99999) 99999 = some (if -99999 ≤ x.toInt ∧ x.toInt ≤ 99999 then 0 else 1) := out_L x rfl rfl
theorem nm99999_99999 (x : Int32) : f_X8_isIn x.toInt64 (-99999) 99999 = some (if -99999 ≤ x.toInt ∧ x.toInt ≤ 99999 then 1 else 0) := isIn_L x rfl rfl
theorem i01 {α : Type} {c : Prop} [Decidable c] {A B : α} : (if (if c then (0 : Int32) else 1) = 0 then A else B) = (if c then A else B) := by
  by_cases h : c
  · rw [if_pos h, if_pos h, if_pos rfl]
  · rw [if_neg h, if_neg h, if_neg (by decide)]
theorem i10 {α : Type} {c : Prop} [Decidable c] {A B : α} : (if (if c then (1 : Int32) else 0) = 0 then A else B) = (if c then B else A) := by
  by_cases h : c
  · rw [if_pos h, if_pos h, if_neg (by decide)]
  · rw [if_neg h, if_neg h, if_pos rfl]
theorem upto {x : Int32} {n : Nat} {i : Int} (h : 0 ≤ x.toInt ∧ x.toInt ≤ i) (hi : i = n) : ∃ k, k ≤ n ∧ x = nI k := by
  obtain ⟨k, hk, e⟩ := isK_n (x := x) (n := n + 1) ⟨h.1, by have := h.2; omega⟩
  exact ⟨k, by omega, e⟩
set_option maxRecDepth 100000 in
theorem isOf_0 : ∀ k, k < 6 → ∀ j, j < 6 → f_X1_isOf (nI k) (nI j) μ0 = f_X8_isOf (nI k) (nI j) ∧ (f_X8_isOf (nI k) (nI j) = some 0 ∨ f_X8_isOf (nI k) (nI j) = some 1) := by decide +kernel
theorem isOf_C (μ : Mem) {k j : Nat} (hk : k ≤ 5) (hj : j ≤ 5) : f_X1_isOf (nI k) (nI j) μ = f_X8_isOf (nI k) (nI j) := (isOf_0 k (by omega) j (by omega)).1
theorem isOf_01 {k j : Nat} (hk : k ≤ 5) (hj : j ≤ 5) : f_X8_isOf (nI k) (nI j) = some 0 ∨ f_X8_isOf (nI k) (nI j) = some 1 := (isOf_0 k (by omega) j (by omega)).2
theorem Step_2 : Step Rel C7_2 C8_2 := by
  intro a μ ν hR
  obtain ⟨t, hV, hY, hC, hM, K⟩ := hR.tw2
  have hn := hV.1
  unfold C7_2 C8_2 ro f_X7_as f_X8_as
  simp only [isNobody_C hV hC, isOne_M hV hM, o0_5, n0_5, bs, i01, i10]
  by_cases h1 : 0 ≤ (a 1).toInt ∧ (a 1).toInt ≤ (tN t : Int) - 1
  · obtain ⟨k, hk, e⟩ := isK_n (n := tN t) h1
    by_cases h2 : 0 ≤ (a 2).toInt ∧ (a 2).toInt ≤ 5
    · obtain ⟨j, hj, e2⟩ := upto (n := 5) h2 rfl
      obtain ⟨z, hz, e3⟩ := (hV.2.2.1 k hk).1
      simp only [if_pos h1, if_pos h2]
      rw [e, e2, ldM_n (by omega) (by omega), bs, (hC.2.2.2 k hk).1, e3, isOf_C μ hz hj, of_0 hV hM hk, bs, e3]
      rcases isOf_01 hz hj with h | h
      · exact ⟨-1000000012, μ, ν, by rw [h]; rfl, by rw [h]; rfl, hR⟩
      · refine ⟨tP t k, μ, ν, ?_, ?_, hR⟩
        · rw [h, bs, if_neg (by decide), ldM_n (by omega) (by omega), bs, (hC.2.2.2 k hk).2.1]
          rfl
        · rw [h, bs, if_neg (by decide), of_2 hV hM hk, bs]
          rfl
    · simp only [if_pos h1, if_neg h2]
      exact ⟨-1000000001, μ, ν, rfl, rfl, hR⟩
  · simp only [if_neg h1]
    exact ⟨-1000000001, μ, ν, rfl, rfl, hR⟩
theorem of_p {ν : Mem} {k : Nat} (w : Nat) (hk : k < 10) (hw : w < 5) (v : Int32) : f_X8_becomes ((9 + 5 * nI k) + nI w) v ν = some (ν 1 (9 + 5 * k + w), mset ν 1 (9 + 5 * k + w) v) := by
  unfold f_X8_becomes
  rw [show ((9 : Int32) + 5 * nI k) + nI w = nI (9 + 5 * k + w) from by show (nI 9 + nI 5 * nI k) + nI w = _; rw [pk_mul, nI_add, nI_add], ldM_n (by omega) (by omega), bs, stM_n (by omega) (by omega), bs]
theorem Step_3 : Step Rel C7_3 C8_3 := by
  intro a μ ν hR
  obtain ⟨t, hV, hY, hC, hM, K⟩ := hR.tw2
  have hn := hV.1
  unfold C7_3 C8_3 f_X7_turns f_X8_turns
  simp only [isNobody_C hV hC, isOne_M hV hM, o0_5, n0_5, bs, i01, i10]
  by_cases h1 : 0 ≤ (a 1).toInt ∧ (a 1).toInt ≤ (tN t : Int) - 1
  · obtain ⟨k, hk, e⟩ := isK_n (n := tN t) h1
    by_cases h2 : 0 ≤ (a 2).toInt ∧ (a 2).toInt ≤ 5
    · simp only [if_pos h1, if_pos h2]
      have g := of_p (ν := ν) (k := k) 0 (by omega) (by omega) (a 2)
      rw [show ((9 : Int32) + 5 * nI k) + nI 0 = 9 + 5 * nI k from Int32.add_zero _] at g
      rw [e, ldM_n (by omega) (by omega), bs, stM_n (by omega) (by omega), bs, g, bs2]
      exact ⟨tK t k, _, _, by rw [(hC.2.2.2 k hk).1], by rw [show 9 + 5 * k + 0 = 9 + 5 * k from rfl, (hM.2.2 k hk).1], K (setK t k (a 2)) _ _ (AV_K hV (upto h2 rfl)) hY (AC_K hC) (by rw [mset_s]; exact AM_K hM) rfl (SameT.m (by omega)) (SameS.m (by omega))⟩
    · simp only [if_pos h1, if_neg h2]
      exact ⟨-1000000001, μ, ν, rfl, rfl, hR⟩
  · simp only [if_neg h1]
    exact ⟨-1000000001, μ, ν, rfl, rfl, hR⟩
theorem mindOf_C {a : AT} {μ : Mem} {b k : Nat} (hV : AV a) (h : AC a μ b) (hk : k < tN a) : f_X6_mindOf b (nI k) μ = some (nI ((tM a).testBit k).toNat) := by
  have hn := hV.1
  have hm := tM_lt hV
  unfold f_X6_mindOf
  rw [h.2.1, bit_nI _ _ (by omega) (by omega)]
theorem flip_C {a : AT} {μ : Mem} {b k : Nat} (hV : AV a) (h : AC a μ b) (hk : k < tN a) : f_X6_flip b (nI k) μ = some (mset μ b 6 (nI (tM a ^^^ 2 ^ k))) := by
  have hn := hV.1
  unfold f_X6_flip
  rw [h.2.1, one_shl _ (by omega), fb_xorI, nms]
theorem Step_4 : Step Rel C7_4 C8_4 := by
  intro a μ ν hR
  obtain ⟨t, hV, hY, hC, hM, K⟩ := hR.tw2
  have hn := hV.1
  have x1 : ∀ x : Int32, x = 1 ∨ x = 2 ∨ x = 3 ∨ ¬ (1 ≤ x.toInt ∧ x.toInt ≤ 3) := by
    intro x
    by_cases h : 1 ≤ x.toInt ∧ x.toInt ≤ 3
    · obtain ⟨j, hj, e⟩ := upto (x := x) (n := 3) ⟨by omega, h.2⟩ rfl
      subst e
      rw [nI_toInt (by omega)] at h
      rcases (by omega : j = 1 ∨ j = 2 ∨ j = 3) with rfl | rfl | rfl
      · exact Or.inl rfl
      · exact Or.inr (Or.inl rfl)
      · exact Or.inr (Or.inr (Or.inl rfl))
    · exact Or.inr (Or.inr (Or.inr h))
  unfold C7_4 C8_4 f_X7_set f_X8_set f_X8_set_J34 f_X8_set_J57 f_X7_setMind f_X7_setPrice f_X7_setPurse
  simp only [isNobody_C hV hC, isOne_M hV hM, o0_1, o0_99, om9999_9999, n0_1, n0_99, nm9999_9999, n1_3, bs, i01, i10]
  by_cases h1 : 0 ≤ (a 1).toInt ∧ (a 1).toInt ≤ (tN t : Int) - 1
  · obtain ⟨k, hk, e⟩ := isK_n (n := tN t) h1
    simp only [if_pos h1]
    rcases x1 (a 2) with h | h | h | h
    · rw [h]
      have j1 : (1 : Int) ≤ (1 : Int32).toInt ∧ (1 : Int32).toInt ≤ 3 := by decide
      simp only [if_pos j1, show ¬ (1 : Int32) = 3 by decide, if_true, if_false]
      by_cases h2 : 0 ≤ (a 3).toInt ∧ (a 3).toInt ≤ 1
      · obtain ⟨c, hc⟩ := is01 h2
        simp only [if_pos h2]
        have g := of_p (ν := ν) (k := k) 1 (by omega) (by omega) (a 3)
        rw [e, mindOf_C hV hC hk, bs, flip_C hV hC hk, show (1 : Int32) = nI 1 from rfl, g, bs2, hc]
        have kk : Rel _ _ := K (setM t (putM (tM t) k c)) (mset μ 21 6 (nI (putM (tM t) k c))) (mset ν 1 (9 + 5 * k + 1) (nI c.toNat)) (AV_M hV (putM_lt c hV.2.1 hk)) hY (AC_M hC) (by rw [mset_s, show 9 + 5 * k + 1 = 10 + 5 * k by omega]; exact AM_M hM c) rfl (SameT.m (by omega)) (SameS.m (by omega))
        by_cases hb : (tM t).testBit k = c
        · have hp : putM (tM t) k c = tM t := if_pos hb
          have km : mset μ 21 6 (nI (putM (tM t) k c)) = μ := by
            rw [hp, ← hC.2.1]
            refine (congrArg (mrow μ 21) ?_).trans (mrow_id μ 21)
            funext q
            by_cases eq : q = 6
            · rw [eq, pk_us]
            · rw [pk_un eq]
          rw [km] at kk
          exact ⟨nI c.toNat, μ, _, by rw [hb, if_pos rfl]; rfl, by rw [show 9 + 5 * k + 1 = 10 + 5 * k by omega, (hM.2.2 k hk).2.1, hb], kk⟩
        · have hp : putM (tM t) k c = tM t ^^^ 2 ^ k := if_neg hb
          rw [hp] at kk
          have hne : ¬ nI ((tM t).testBit k).toNat = nI c.toNat := by
            revert hb
            cases (tM t).testBit k <;> cases c <;> decide
          exact ⟨nI ((tM t).testBit k).toNat, _, _, by rw [if_neg hne]; rfl, by rw [show 9 + 5 * k + 1 = 10 + 5 * k by omega, (hM.2.2 k hk).2.1], kk⟩
      · simp only [if_neg h2]
        exact ⟨-1000000001, μ, ν, rfl, rfl, hR⟩
    · rw [h]
      have j1 : (1 : Int) ≤ (2 : Int32).toInt ∧ (2 : Int32).toInt ≤ 3 := by decide
      simp only [if_pos j1, show ¬ (2 : Int32) = 3 by decide, show ¬ (2 : Int32) = 1 by decide, if_true, if_false]
      by_cases h2 : 0 ≤ (a 3).toInt ∧ (a 3).toInt ≤ 99
      · simp only [if_pos h2]
        have g := of_p (ν := ν) (k := k) 2 (by omega) (by omega) (a 3)
        rw [e, ldM_n (by omega) (by omega), bs, stM_n (by omega) (by omega), bs, show (2 : Int32) = nI 2 from rfl, g, bs2, bs2]
        exact ⟨tP t k, _, _, by rw [(hC.2.2.2 k hk).2.1], by rw [show 9 + 5 * k + 2 = 11 + 5 * k by omega, (hM.2.2 k hk).2.2.1], K (setP t k (a 3)) _ _ (AV_P hV (upto h2 rfl)) hY (AC_P hC) (by rw [mset_s]; exact AM_P hM) rfl (SameT.m (by omega)) (SameS.m (by omega))⟩
      · simp only [if_neg h2]
        exact ⟨-1000000001, μ, ν, rfl, rfl, hR⟩
    · rw [h]
      have j1 : (1 : Int) ≤ (3 : Int32).toInt ∧ (3 : Int32).toInt ≤ 3 := by decide
      simp only [if_pos j1, show ¬ (3 : Int32) = 2 by decide, show ¬ (3 : Int32) = 1 by decide, if_true, if_false]
      by_cases h2 : -9999 ≤ (a 3).toInt ∧ (a 3).toInt ≤ 9999
      · simp only [if_pos h2]
        have g := of_p (ν := ν) (k := k) 3 (by omega) (by omega) (a 3)
        rw [e, ldM_n (by omega) (by omega), bs, stM_n (by omega) (by omega), bs, show (3 : Int32) = nI 3 from rfl, g, bs2, bs2]
        exact ⟨tU t k, _, _, by rw [(hC.2.2.2 k hk).2.2.1], by rw [show 9 + 5 * k + 3 = 12 + 5 * k by omega, (hM.2.2 k hk).2.2.2.1], K (setU t k (a 3)) _ _ (AV_U hV h2) hY (AC_U hC) (by rw [mset_s]; exact AM_U hM) rfl (SameT.m (by omega)) (SameS.m (by omega))⟩
      · simp only [if_neg h2]
        exact ⟨-1000000001, μ, ν, rfl, rfl, hR⟩
    · simp only [if_neg h]
      have n1 : ¬ a 2 = 1 := fun z => h (by rw [z]; decide)
      have n2 : ¬ a 2 = 2 := fun z => h (by rw [z]; decide)
      have n3 : ¬ a 2 = 3 := fun z => h (by rw [z]; decide)
      simp only [if_neg n1, if_neg n2, if_neg n3]
      exact ⟨-1000000001, μ, ν, rfl, rfl, hR⟩
  · simp only [if_neg h1]
    exact ⟨-1000000001, μ, ν, rfl, rfl, hR⟩
