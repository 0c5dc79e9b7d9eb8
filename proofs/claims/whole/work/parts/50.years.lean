/-! YEARS, BEHIND, SETTLES, WON -/
section RZ
variable {t : TB} {n b : Nat} {a : AT} {μ ν : Mem}
/-- years of both, until the last of all -/
theorem years_2 (h : Ru t n b a μ ν) {y N : Nat} (hy : y ≤ 9999) (ey : tS a 12 = nI y) (hN : N ≤ 100) : ∃ a' μ' ν', f_X6_pass b (nI (if 9999 - y < N then 9999 - y else N)) μ = some μ' ∧ lpF (fun v => f_X8_years_L24 (nI N) v.1 v.2) 4000 (0, ν) = some ν' ∧ Ru t n b a' μ' ν' ∧ (∃ z, z ≤ 9999 ∧ tS a' 12 = nI z) ∧ SameP b μ μ' ∧ SameQ ν ν' := by
  have hM : (if 9999 - y < N then 9999 - y else N) ≤ N ∧ (if 9999 - y < N then 9999 - y else N) ≤ 9999 - y ∧ ((if 9999 - y < N then 9999 - y else N) = N ∨ (if 9999 - y < N then 9999 - y else N) = 9999 - y) := by
    split <;> omega
  generalize (if 9999 - y < N then 9999 - y else N) = M at hM
  have hl : ∃ x w, lpF (fun v => f_X6_pass_L2 b (nI M) v.1 v.2) 4000 (0, μ) = some x ∧ lpF (fun v => f_X8_years_L24 (nI N) v.1 v.2) 4000 (0, ν) = some w ∧ ∃ a', Ru t n b a' x w ∧ (∃ z, z ≤ 9999 ∧ tS a' 12 = nI z) ∧ SameP b μ x ∧ SameQ ν w := by
    refine lpT (fun k v w => ∃ a' μ' ν', v = (nI k, μ') ∧ w = (nI k, ν') ∧ Ru t n b a' μ' ν' ∧ tS a' 12 = nI (y + k) ∧ SameP b μ μ' ∧ SameQ ν ν') (fun x w => ∃ a', Ru t n b a' x w ∧ (∃ z, z ≤ 9999 ∧ tS a' 12 = nI z) ∧ SameP b μ x ∧ SameQ ν w) M (fun k v w hk hp => ?_) (by omega) (by omega) ⟨a, μ, ν, rfl, rfl, h, ey, SameP.rf b μ, SameQ.rf ν⟩
    obtain ⟨a', μ', ν', rfl, rfl, g, gy, gp, gq⟩ := hp
    have m2 : ldM (ν' 1) 3059 2 = some (nI (y + k)) := (ldk (k := 2) (by omega)).trans (by rw [g.2.2.2.2.1.2.1.2.1, gy])
    by_cases he : k = M
    · refine Or.inl ⟨μ', ν', ?_, ?_, a', g, ⟨y + k, by omega, gy⟩, gp, gq⟩
      · show f_X6_pass_L2 b (nI M) (nI k) μ' = _
        unfold f_X6_pass_L2
        rw [he, if_pos (nI_le (Nat.le_refl _) (by omega))]
      · show f_X8_years_L24 (nI N) (nI k) ν' = _
        unfold f_X8_years_L24
        by_cases hkN : N ≤ k
        · rw [if_pos (nI_le hkN (by omega))]
        · rw [if_neg (nI_ge (by omega) (by omega)), m2, bs, if_pos (show (9999 : Int32) ≤ nI (y + k) from nI_le (a := 9999) (by omega) (by omega))]
    · obtain ⟨a2, μ2, ν2, c1, c2, g2, n2, y2, p2, q2⟩ := year_2 g (N := M) (k := k) (by omega) (by omega)
      refine Or.inr ⟨by omega, (nI (k + 1), μ2), (nI (k + 1), ν2), c1, ?_, a2, μ2, ν2, rfl, rfl, g2, by rw [y2, gy, nI_1]; rfl, gp.tr p2, gq.tr q2⟩
      show f_X8_years_L24 (nI N) (nI k) ν' = _
      unfold f_X8_years_L24
      rw [if_neg (nI_ge (by omega) (by omega)), m2, bs, if_neg (show ¬ (9999 : Int32) ≤ nI (y + k) from nI_ge (b := 9999) (by omega) (by omega)), c2, bs, nI_1]
  obtain ⟨x, w, e1, e2, a', g⟩ := hl
  refine ⟨a', x, w, ?_, e2, g⟩
  unfold f_X6_pass f_X6_pass_K2_39
  rw [e1, bs]
end RZ
theorem Rt.ru {t : TB} {a : AT} {μ : Mem} {b : Nat} {ν : Mem} (hb : 21 ≤ b) (h : Rt t a μ b ν) : Ru t (tX a) b a μ ν := ⟨hb, rfl, h.1, h.2.2.1, h.2.2.2.1, h.2.2.2.2.1, h.2.2.2.2.2.1, h.2.2.2.2.2.2⟩
theorem Step_15 : Step Rel C7_15 C8_15 := by
  intro a μ ν hR
  obtain ⟨t, w, h, K⟩ := hR.rt
  have h0 := h
  obtain ⟨hV, ⟨y, hy, ey⟩, hC, hM, hTM, hTV, hTC⟩ := h
  unfold C7_15 C8_15 f_X7_years f_X8_years
  simp only [o1_100, n1_100, bs, i01, i10]
  by_cases h1 : 1 ≤ (a 1).toInt ∧ (a 1).toInt ≤ 100
  · obtain ⟨N, hN, e⟩ := upto (x := a 1) (n := 100) ⟨by omega, h1.2⟩ rfl
    obtain ⟨a', μ', ν', c1, c2, g, gy, gp, gq⟩ := years_2 (h0.ru (by omega)) hy ey hN
    simp only [if_pos h1]
    have ec : (if (9999 - (μ 21 12)) < a 1 then (9999 - (μ 21 12)) else a 1) = nI (if 9999 - y < N then 9999 - y else N) := by
      rw [e, hC.2.2.1 12 (by omega) (by omega), ey, show (9999 : Int32) - nI y = nI (9999 - y) from pk_sub (a := 9999) hy]
      by_cases c : 9999 - y < N
      · rw [if_pos c, if_pos (nI_lt c (by omega))]
      · rw [if_neg c, if_neg (nI_nlt (by omega) (by omega))]
    rw [nms, ec, c1, bs, show ldM (ν 1) 3059 4 = some (tS w 11) from (ldk (k := 4) (by omega)).trans (by rw [hM.2.1.2.2.2.1]), bs, e, c2, bs]
    unfold f_X8_years_K24_51
    rw [show ldM (ν' 1) 3059 4 = some (tS a' 11) from (ldk (k := 4) (by omega)).trans (by rw [g.2.2.2.2.1.2.1.2.2.2.1]), bs, g.2.2.2.1.2.2.1 11 (by omega) (by omega), hC.2.2.1 11 (by omega) (by omega)]
    refine ⟨_, μ', ν', rfl, rfl, K a' μ' ν' ?_ g.2.1 (fun i i1 i2 i3 i4 => gp i i1 i2) (fun i i1 i2 i3 i4 i5 i6 i7 => gq.1 i i1 i4 i5)⟩
    obtain ⟨k1, k2, k3, k4, k5, k6, k7, k8⟩ := g
    exact ⟨k3, gy, k4, k5, by rw [k2]; exact k6, by rw [k2]; exact k7, by rw [k2]; exact k8⟩
  · simp only [if_neg h1]
    exact ⟨-1000000001, μ, ν, rfl, rfl, hR⟩
theorem laysBy_M (ν : Mem) : f_X8_laysBy ν = some (mrow ν 12 (fun q => if q < 59 then ν 1 q else ν 12 q)) := by
  unfold f_X8_laysBy
  refine (bl (fun k => (nI k, mrow ν 12 (fun q => if q < k then ν 1 q else ν 12 q))) _ 59 ?_ (by omega) (fun k hk => ?_) ?_).trans rfl
  · rw [show (fun q => if q < 0 then ν 1 q else ν 12 q) = ν 12 from by
      funext q
      rw [if_neg (Nat.not_lt_zero q)], mrow_id]
    rfl
  · show f_X8_laysBy_L2 (nI k) (mrow ν 12 (fun q => if q < k then ν 1 q else ν 12 q)) = _
    unfold f_X8_laysBy_L2
    rw [if_neg (show ¬ (59 : Int32) ≤ nI k from nI_ge (b := 59) hk (by omega)), mrow_n (by omega), ldM_n (by omega) (by omega), bs, stM_n (by omega) (by omega), bs, mset_mrow, nI_1]
    have e := up_lt (f := fun q => ν 1 q) (g := fun q => ν 12 q) (k := k)
    rw [e]
  · exact if_pos (show (59 : Int32) ≤ nI 59 by decide)
theorem laysBack_M (ν : Mem) : f_X8_laysBack ν = some (mrow ν 1 (fun q => if q < 59 then ν 12 q else ν 1 q)) := by
  unfold f_X8_laysBack
  refine (bl (fun k => (nI k, mrow ν 1 (fun q => if q < k then ν 12 q else ν 1 q))) _ 59 ?_ (by omega) (fun k hk => ?_) ?_).trans rfl
  · rw [show (fun q => if q < 0 then ν 12 q else ν 1 q) = ν 1 from by
      funext q
      rw [if_neg (Nat.not_lt_zero q)], mrow_id]
    rfl
  · show f_X8_laysBack_L2 (nI k) (mrow ν 1 (fun q => if q < k then ν 12 q else ν 1 q)) = _
    unfold f_X8_laysBack_L2
    rw [if_neg (show ¬ (59 : Int32) ≤ nI k from nI_ge (b := 59) hk (by omega)), mrow_n (by omega), ldM_n (by omega) (by omega), bs, stM_n (by omega) (by omega), bs, mset_mrow, nI_1]
    have e := up_lt (f := fun q => ν 12 q) (g := fun q => ν 1 q) (k := k)
    rw [e]
  · exact if_pos (show (59 : Int32) ≤ nI 59 by decide)
/-- what was laid by comes back -/
theorem lays_back {ν ν' : Mem} (h : SameQ (mrow ν 12 (fun q => if q < 59 then ν 1 q else ν 12 q)) ν') : f_X8_laysBack ν' = some (mrow ν' 1 (ν 1)) ∧ SameM ν (mrow ν' 1 (ν 1)) := by
  have e : (fun q => if q < 59 then ν' 12 q else ν' 1 q) = ν 1 := by
    funext q
    by_cases c : q < 59
    · rw [if_pos c, h.1 12 (by omega) (by omega) (by omega), mrow_s, if_pos c]
    · rw [if_neg c, h.2 q (by omega), mrow_n (by omega)]
  rw [laysBack_M, e]
  refine ⟨rfl, fun i i1 i2 i3 i4 i5 i6 => ?_⟩
  by_cases c : i = 1
  · rw [c, mrow_s]
  · rw [mrow_n c, h.1 i c i3 i4, mrow_n i2]
/-- a thought of the town, of both -/
theorem think_2 {t : TB} {a : AT} {μ ν : Mem} (h : Rt t a μ 21 ν) : ∃ μ', f_X6_become 31 21 μ = some μ' ∧ Ru t (tX a) 31 a μ' (mrow ν 12 (fun q => if q < 59 then ν 1 q else ν 12 q)) ∧ SameP 31 μ μ' := by
  obtain ⟨hV, hY, hC, hM, hTM, hTV, hTC⟩ := h
  have x14 := (tX_eq hV).2
  obtain ⟨μ', e, c1, c2⟩ := become_C (b := 31) (b0 := 21) (by omega) hC hV
  exact ⟨μ', e, ⟨by omega, rfl, hV, c1, by rw [mrow_n (by omega)]; exact hM, by rw [mrow_n (by omega)]; exact hTM, hTV, hTC.of x14 (fun i i1 i2 i3 => c2 i (by omega))⟩, fun i i1 i2 => c2 i i1⟩
theorem SameP.c31 {μ μ' : Mem} (h : SameP 31 μ μ') : SameC μ μ' := fun i i1 i2 i3 => h i (by omega) i1
theorem Step_16 : Step Rel C7_16 C8_16 := by
  intro a μ ν hR
  obtain ⟨t, w, h, K⟩ := hR.rt
  unfold C7_16 C8_16 f_X7_behind f_X8_behind
  simp only [o0_100, n0_100, o0_3, n0_3, bs, i01, i10]
  by_cases h1 : 0 ≤ (a 1).toInt ∧ (a 1).toInt ≤ 100
  · by_cases h2 : 0 ≤ (a 2).toInt ∧ (a 2).toInt ≤ 3
    · obtain ⟨N, hN, e⟩ := upto (n := 100) h1 rfl
      obtain ⟨μ1, c0, g0, p0⟩ := think_2 h
      obtain ⟨a', μ', ν', c1, c2, g, gn, gp, gq⟩ := many_2 g0 (N := N) (by omega)
      obtain ⟨b1, b2⟩ := lays_back gq
      have ⟨k1, k2, k3, k4, k5, k6, k7, k8⟩ := g
      simp only [if_pos h1, if_pos h2]
      rw [c0, bs, laysBy_M, bs, e, c1, bs, c2, bs, b1, allOff_C k3 k4, bs, k4.2.2.1 10 (by omega) (by omega), k4.2.2.1 11 (by omega) (by omega), k4.2.1]
      rw [allOff_M k3 k5, bs, bs, show ldM (ν' 1) 3059 3 = some (tS a' 10) from (ldk (k := 3) (by omega)).trans (by rw [k5.2.1.2.2.1]), bs, bs, show ldM (ν' 1) 3059 4 = some (tS a' 11) from (ldk (k := 4) (by omega)).trans (by rw [k5.2.1.2.2.2.1]), bs, bs, forNow_M k3 k5, bs, bs]
      have fin : Rel μ' (mrow ν' 1 (ν 1)) := hR.of (p0.tr gp).c31 b2
      by_cases z0 : a 2 = 0
      · rw [if_pos z0, if_pos z0]
        exact ⟨_, _, _, rfl, rfl, fin⟩
      · rw [if_neg z0, if_neg z0]
        by_cases z1 : a 2 = 1
        · rw [if_pos z1, if_pos z1]
          exact ⟨_, _, _, rfl, rfl, fin⟩
        · rw [if_neg z1, if_neg z1]
          by_cases z2 : a 2 = 2
          · rw [if_pos z2, if_pos z2]
            exact ⟨_, _, _, rfl, rfl, fin⟩
          · rw [if_neg z2, if_neg z2]
            exact ⟨_, _, _, rfl, rfl, fin⟩
    · simp only [if_pos h1, if_neg h2]
      exact ⟨-1000000001, μ, ν, rfl, rfl, hR⟩
  · simp only [if_neg h1]
    exact ⟨-1000000001, μ, ν, rfl, rfl, hR⟩
