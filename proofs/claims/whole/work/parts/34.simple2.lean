/-! FRIENDS, RULE, SEED, TOWN, COUNT, KEEP, BACK -/
theorem SameS.r {ν : Mem} {f : Nat → Int32} (h : ∀ q, 59 ≤ q → f q = ν 1 q) : SameS ν (mrow ν 1 f) := ⟨fun j h1 _ _ _ _ _ _ => mrow_n h1, fun q hq => by rw [mrow_s]; exact h q hq⟩
theorem AC_tog {a : AT} {μ : Mem} {b i j : Nat} (h : AC a μ b) (hij : i ≠ j) : AC (tog a i j) (mset (mset μ (b + 4) i (nI (tF a i ^^^ 2 ^ j))) (b + 4) j (nI (tF a j ^^^ 2 ^ i))) b := by
  unfold AC
  rw [mset_n (j := b) (by omega), mset_n (j := b + 1) (by omega), mset_n (j := b + 2) (by omega), mset_n (j := b + 3) (by omega), mset_n (j := b) (by omega), mset_n (j := b + 1) (by omega), mset_n (j := b + 2) (by omega), mset_n (j := b + 3) (by omega)]
  refine ⟨h.1, h.2.1, h.2.2.1, fun k hk => ⟨(h.2.2.2 k hk).1, (h.2.2.2 k hk).2.1, (h.2.2.2 k hk).2.2.1, ?_⟩⟩
  by_cases e2 : k = j
  · rw [e2, mset_ss, tog_j a hij]
  · rw [mset_sn e2]
    by_cases e1 : k = i
    · rw [e1, mset_ss, tog_i]
    · rw [mset_sn e1, tog_k a e1 e2]
      exact (h.2.2.2 k hk).2.2.2
theorem Step_5 : Step Rel C7_5 C8_5 := by
  intro a μ ν hR
  obtain ⟨t, hV, hY, hC, hM, K⟩ := hR.tw2
  have hn := hV.1
  unfold C7_5 C8_5 f_X7_friends f_X8_friends f_X7_friends_J50
  simp only [isNobody_C hV hC, isOne_M hV hM, o0_1, n0_1, bs, i01, i10]
  by_cases h1 : 0 ≤ (a 1).toInt ∧ (a 1).toInt ≤ (tN t : Int) - 1
  · obtain ⟨i, hi, e1⟩ := isK_n (n := tN t) h1
    by_cases h2 : 0 ≤ (a 2).toInt ∧ (a 2).toInt ≤ (tN t : Int) - 1
    · obtain ⟨j, hj, e2⟩ := isK_n (n := tN t) h2
      by_cases h3 : a 1 = a 2
      · simp only [if_pos h1, if_pos h2, if_pos h3]
        exact ⟨-1000000001, μ, ν, rfl, rfl, hR⟩
      · have hij : i ≠ j := fun z => h3 (by rw [e1, e2, z])
        by_cases h4 : 0 ≤ (a 3).toInt ∧ (a 3).toInt ≤ 1
        · obtain ⟨c, hc⟩ := is01 h4
          simp only [if_pos h1, if_pos h2, if_neg h3, if_pos h4]
          rw [e1, e2, hc, frd_C hV hC hi hj, bs, frd_M hV hM hi hj, bs, joins_M hV hM hij hi hj c, bs]
          have hb2 : (tF t j).testBit i = (tF t i).testBit j := (hV.2.2.2.1 i j hi hj).symm
          by_cases hb : (tF t i).testBit j = c
          · have s1 : sbit (tF t i) j c = tF t i := (sbit_all _ (tF_lt hV hi) j (by omega) c).trans (if_pos hb)
            have s2 : sbit (tF t j) i c = tF t j := (sbit_all _ (tF_lt hV hj) i (by omega) c).trans (if_pos (by rw [hb2]; exact hb))
            have hrow : upd (upd (ν 1) (13 + 5 * i) (nI (tF t i))) (13 + 5 * j) (nI (tF t j)) = ν 1 := by
              funext q
              by_cases q2 : q = 13 + 5 * j
              · rw [q2, pk_us, (hM.2.2 j hj).2.2.2.2]
              · rw [pk_un q2]
                by_cases q1 : q = 13 + 5 * i
                · rw [q1, pk_us, (hM.2.2 i hi).2.2.2.2]
                · rw [pk_un q1]
            rw [s1, s2, hrow, mrow_id, hb]
            refine ⟨nI c.toNat, μ, ν, ?_, rfl, hR⟩
            cases c
            · rw [if_pos (by rfl)]; exact if_pos rfl
            · rw [if_neg (by decide)]; exact if_pos rfl
          · have s1 : sbit (tF t i) j c = tF t i ^^^ 2 ^ j := (sbit_all _ (tF_lt hV hi) j (by omega) c).trans (if_neg hb)
            have s2 : sbit (tF t j) i c = tF t j ^^^ 2 ^ i := (sbit_all _ (tF_lt hV hj) i (by omega) c).trans (if_neg (by rw [hb2]; exact hb))
            have ch : ∀ (s : Int32), (bn1 (ldM (μ 25) 10 (nI i)) fun v6 => bn1 (stM μ 25 10 (nI i) (v6 ^^^ ((1 : Int32) <<< (nI j &&& 31)))) fun m7 => bn1 (ldM (m7 25) 10 (nI j)) fun v8 => bn1 (stM m7 25 10 (nI j) (v8 ^^^ ((1 : Int32) <<< (nI i &&& 31)))) fun m9 => some (s, m9)) = some (s, mset (mset μ 25 i (nI (tF t i ^^^ 2 ^ j))) 25 j (nI (tF t j ^^^ 2 ^ i))) := fun s => by
              rw [ldM_n (by omega) (by omega), bs, (hC.2.2.2 i hi).2.2.2, one_shl _ (by omega), fb_xorI, stM_n (by omega) (by omega), bs, ldM_n (by omega) (by omega), bs, mset_sn (Ne.symm hij), (hC.2.2.2 j hj).2.2.2, one_shl _ (by omega), fb_xorI, stM_n (by omega) (by omega), bs]
            rw [s1, s2]
            refine ⟨nI ((tF t i).testBit j).toNat, mset (mset μ 25 i (nI (tF t i ^^^ 2 ^ j))) 25 j (nI (tF t j ^^^ 2 ^ i)), _, ?_, rfl, K (tog t i j) _ _ (AV_tog hV hij hi hj) hY (AC_tog hC hij) (by rw [mrow_s]; exact AM_tog hM hV.1 hij) rfl ((SameT.m (by omega)).tr (SameT.m (by omega))) (SameS.r (fun q hq => by rw [pk_un (by omega), pk_un (by omega)]))⟩
            cases hx : (tF t i).testBit j <;> cases c
            · exact absurd hx hb
            · rw [if_pos (by rfl)]; exact (if_neg (show ¬ (0 : Int32) = nI true.toNat by decide)).trans (ch _)
            · rw [if_neg (by decide)]; exact (if_neg (show ¬ (1 : Int32) = nI false.toNat by decide)).trans (ch _)
            · exact absurd hx hb
        · simp only [if_pos h1, if_pos h2, if_neg h3, if_neg h4]
          exact ⟨-1000000001, μ, ν, rfl, rfl, hR⟩
    · simp only [if_pos h1, if_neg h2]
      exact ⟨-1000000001, μ, ν, rfl, rfl, hR⟩
  · simp only [if_neg h1]
    exact ⟨-1000000001, μ, ν, rfl, rfl, hR⟩
theorem bec_n {ν : Mem} {k : Nat} (hk : k < 3059) (v : Int32) : f_X8_becomes (nI k) v ν = some (ν 1 k, mset ν 1 k v) := by
  unfold f_X8_becomes
  rw [ldM_n hk (by omega), bs, stM_n hk (by omega), bs]
theorem Step_6 : Step Rel C7_6 C8_6 := by
  intro a μ ν hR
  obtain ⟨t, hV, hY, hC, hM, K⟩ := hR.tw2
  unfold C7_6 C8_6 f_X7_rule f_X8_rule f_X8_rule_J39
  simp only [o0_9, o0_2, o0_100, n0_2, n0_9, n0_100, bs, i01, i10]
  by_cases h : 0 ≤ (a 1).toInt ∧ (a 1).toInt ≤ 2
  · obtain ⟨k, hk, e⟩ := upto (n := 2) h rfl
    simp only [if_pos h]
    rw [e]
    rcases (by omega : k = 0 ∨ k = 1 ∨ k = 2) with rfl | rfl | rfl
    · simp only [show nI 0 = 0 from rfl, if_true]
      by_cases h2 : 0 ≤ (a 2).toInt ∧ (a 2).toInt ≤ 9
      · simp only [if_pos h2]
        rw [show (6 : Int32) + 0 = nI 6 from rfl, bec_n (by omega), bs2]
        refine ⟨tS t 7, mset μ 21 7 (a 2), mset ν 1 6 (a 2), ?_, ?_, K (setS t 7 (a 2)) _ _ (AV_S hV (fun _ => upto h2 rfl) (fun z => absurd z (by decide)) (fun z => absurd z (by decide)) (fun z => absurd z (by decide))) hY (AC_S hC (by omega)) (by rw [mset_s]; exact AM_S hM (i := 7) (by omega) (by omega)) rfl (SameT.m (by omega)) (SameS.m (by omega))⟩
        · rw [nms, hC.2.2.1 7 (by omega) (by omega)]
        · rw [hM.2.1.2.2.2.2.2.1]
      · simp only [if_neg h2]
        exact ⟨-1000000001, μ, ν, rfl, rfl, hR⟩
    · simp only [show nI 1 = 1 from rfl, show ¬ (1 : Int32) = 0 by decide, if_true, if_false]
      by_cases h2 : 0 ≤ (a 2).toInt ∧ (a 2).toInt ≤ 2
      · simp only [if_pos h2]
        rw [show (6 : Int32) + 1 = nI 7 from rfl, bec_n (by omega), bs2]
        refine ⟨tS t 8, mset μ 21 8 (a 2), mset ν 1 7 (a 2), ?_, ?_, K (setS t 8 (a 2)) _ _ (AV_S hV (fun z => absurd z (by decide)) (fun _ => upto h2 rfl) (fun z => absurd z (by decide)) (fun z => absurd z (by decide))) hY (AC_S hC (by omega)) (by rw [mset_s]; exact AM_S hM (i := 8) (by omega) (by omega)) rfl (SameT.m (by omega)) (SameS.m (by omega))⟩
        · rw [nms, hC.2.2.1 8 (by omega) (by omega)]
        · rw [hM.2.1.2.2.2.2.2.2.1]
      · simp only [if_neg h2]
        exact ⟨-1000000001, μ, ν, rfl, rfl, hR⟩
    · simp only [show nI 2 = 2 from rfl, show ¬ (2 : Int32) = 0 by decide, show ¬ (2 : Int32) = 1 by decide, if_true, if_false]
      by_cases h2 : 0 ≤ (a 2).toInt ∧ (a 2).toInt ≤ 100
      · simp only [if_pos h2]
        rw [show (6 : Int32) + 2 = nI 8 from rfl, bec_n (by omega), bs2]
        refine ⟨tS t 9, mset μ 21 9 (a 2), mset ν 1 8 (a 2), ?_, ?_, K (setS t 9 (a 2)) _ _ (AV_S hV (fun z => absurd z (by decide)) (fun z => absurd z (by decide)) (fun _ => upto h2 rfl) (fun z => absurd z (by decide))) hY (AC_S hC (by omega)) (by rw [mset_s]; exact AM_S hM (i := 9) (by omega) (by omega)) rfl (SameT.m (by omega)) (SameS.m (by omega))⟩
        · rw [nms, hC.2.2.1 9 (by omega) (by omega)]
        · rw [hM.2.1.2.2.2.2.2.2.2]
      · simp only [if_neg h2]
        exact ⟨-1000000001, μ, ν, rfl, rfl, hR⟩
  · have n0 : ¬ a 1 = 0 := fun z => h (by rw [z]; decide)
    have n1 : ¬ a 1 = 1 := fun z => h (by rw [z]; decide)
    have n2 : ¬ a 1 = 2 := fun z => h (by rw [z]; decide)
    simp only [if_neg h, if_neg n0, if_neg n1, if_neg n2]
    exact ⟨-1000000001, μ, ν, rfl, rfl, hR⟩
theorem Step_8 : Step Rel C7_8 C8_8 := by
  intro a μ ν hR
  obtain ⟨t, hV, hY, hC, hM, K⟩ := hR.tw2
  unfold C7_8 C8_8 f_X7_seed f_X8_seed
  rw [show (5 : Int32) = nI 5 from rfl, bec_n (by omega), bs2]
  refine ⟨tS t 13, mset μ 21 13 (a 1), mset ν 1 5 (a 1), ?_, ?_, K (setS t 13 (a 1)) _ _ (AV_S hV (fun z => absurd z (by decide)) (fun z => absurd z (by decide)) (fun z => absurd z (by decide)) (fun z => absurd z (by decide))) hY (AC_S hC (by omega)) (by rw [mset_s]; exact AM_S hM (i := 13) (by omega) (by omega)) rfl (SameT.m (by omega)) (SameS.m (by omega))⟩
  · rw [nms, hC.2.2.1 13 (by omega) (by omega)]
  · rw [hM.2.1.2.2.2.2.1]
theorem ldk {ν : Mem} {k : Nat} (hk : k < 3059) : ldM (ν 1) 3059 (nI k) = some (ν 1 k) := ldM_n hk (by omega)
theorem Step_9 : Step Rel C7_9 C8_9 := by
  intro a μ ν hR
  obtain ⟨t, hV, hY, hC, hM⟩ := hR.tw
  unfold C7_9 C8_9 ro f_X7_town f_X8_town
  rw [allOff_C hV hC, bs, hC.2.2.1 10 (by omega) (by omega), hC.2.2.1 11 (by omega) (by omega), hC.2.1, unruly_C hV hC, bs, oddOnes_C hV hC, bs]
  rw [allOff_M hV hM, bs, show (ldM (ν 1) 3059 3) = some (tS t 10) from (ldk (k := 3) (by omega)).trans (by rw [hM.2.1.2.2.1]), bs, show (ldM (ν 1) 3059 4) = some (tS t 11) from (ldk (k := 4) (by omega)).trans (by rw [hM.2.1.2.2.2.1]), bs, forNow_M hV hM]
  simp only [bs]
  rw [disorder_M hV hM, bs, oddOnes_M hV hM, bs]
  by_cases h0 : a 1 = 0
  · exact ⟨_, μ, ν, by simp only [if_pos h0]; rfl, by simp only [if_pos h0]; rfl, hR⟩
  · by_cases h1 : a 1 = 1
    · exact ⟨_, μ, ν, by simp only [if_neg h0, if_pos h1]; rfl, by simp only [if_neg h0, if_pos h1]; rfl, hR⟩
    · by_cases h2 : a 1 = 2
      · exact ⟨_, μ, ν, by simp only [if_neg h0, if_neg h1, if_pos h2]; rfl, by simp only [if_neg h0, if_neg h1, if_pos h2]; rfl, hR⟩
      · by_cases h3 : a 1 = 3
        · exact ⟨_, μ, ν, by simp only [if_neg h0, if_neg h1, if_neg h2, if_pos h3]; rfl, by simp only [if_neg h0, if_neg h1, if_neg h2, if_pos h3]; rfl, hR⟩
        · by_cases h4 : a 1 = 4
          · exact ⟨_, μ, ν, by simp only [if_neg h0, if_neg h1, if_neg h2, if_neg h3, if_pos h4]; rfl, by simp only [if_neg h0, if_neg h1, if_neg h2, if_neg h3, if_pos h4]; rfl, hR⟩
          · by_cases h5 : a 1 = 5
            · exact ⟨_, μ, ν, by simp only [if_neg h0, if_neg h1, if_neg h2, if_neg h3, if_neg h4, if_pos h5]; rfl, by simp only [if_neg h0, if_neg h1, if_neg h2, if_neg h3, if_neg h4, if_pos h5]; rfl, hR⟩
            · exact ⟨-1000000001, μ, ν, by simp only [if_neg h0, if_neg h1, if_neg h2, if_neg h3, if_neg h4, if_neg h5]; rfl, by simp only [if_neg h0, if_neg h1, if_neg h2, if_neg h3, if_neg h4, if_neg h5]; rfl, hR⟩
