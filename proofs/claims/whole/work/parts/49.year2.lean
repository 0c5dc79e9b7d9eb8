/-! THE YEAR: persuading, whims -/
/-- how far from half all of a set are, at minds m -/
def aAr (a : AT) (s m : Nat) : Nat → Nat
  | 0 => 0
  | k + 1 => aAr a s m k + (if s.testBit k = true then aOff a k m else 0)
theorem aAr_le (a : AT) (s m : Nat) : ∀ k, aAr a s m k ≤ 20 * k
  | 0 => Nat.le_refl 0
  | k + 1 => by
    have h1 := aAr_le a s m k
    have h2 := aOff_le a k m
    unfold aAr
    split <;> omega
section RY
variable {t : TB} {n b : Nat} {a : AT} {μ ν : Mem}
theorem offAll_C (hV : AV a) (h : AC a μ b) {s : Nat} (hs : s < 1024) (m : Nat) : f_X6_offOfAll b (nI s) (nI m) μ = some (nI (aAr a s m (tN a))) := by
  have hn := hV.1
  unfold f_X6_offOfAll
  refine (bl (fun k => (nI (aAr a s m k), nI k)) (nI (aAr a s m (tN a))) (tN a) rfl (by omega) (fun k hk => ?_) ?_).trans rfl
  · show f_X6_offOfAll_L5 b (nI s) (nI m) μ (nI (aAr a s m k)) (nI k) = _
    unfold f_X6_offOfAll_L5 f_X6_offOfAll_J34
    have e : aAr a s m (k + 1) = aAr a s m k + (if s.testBit k = true then aOff a k m else 0) := rfl
    rw [h.1, if_neg (nI_ge hk (by omega)), bit_nI _ _ (by omega) (by omega), e]
    cases s.testBit k with
    | true =>
      rw [if_pos (by rfl), off_C hV h hk, bs, nI_add, nI_1]
      rfl
    | false =>
      rw [if_neg (by decide), nI_1]
      rfl
  · show f_X6_offOfAll_L5 b (nI s) (nI m) μ (nI (aAr a s m (tN a))) (nI (tN a)) = _
    unfold f_X6_offOfAll_L5
    rw [h.1, if_pos (nI_le (Nat.le_refl _) (by omega))]
theorem around_M (hV : AV a) (h : AM a (ν 1)) {i : Nat} (hi : i < tN a) (m : Nat) : f_X8_around (nI i) (nI m) ν = some (nI (aAr a (tF a i ||| 2 ^ i) m (tN a))) := by
  have hn := hV.1
  unfold f_X8_around
  refine (bl (fun k => (nI (aAr a (tF a i ||| 2 ^ i) m k), nI k)) (nI (aAr a (tF a i ||| 2 ^ i) m (tN a))) (tN a) rfl (by omega) (fun k hk => ?_) ?_).trans rfl
  · show f_X8_around_L5 (nI i) (nI m) ν (nI (aAr a (tF a i ||| 2 ^ i) m k)) (nI k) = _
    unfold f_X8_around_L5 f_X8_around_J34 f_X8_around_J45
    have e : aAr a (tF a i ||| 2 ^ i) m (k + 1) = aAr a (tF a i ||| 2 ^ i) m k + (if (tF a i ||| 2 ^ i).testBit k = true then aOff a k m else 0) := rfl
    rw [AM_0 h, bs, if_neg (nI_ge hk (by omega)), e, Nat.testBit_or, Nat.testBit_two_pow, frd_M hV h hi hk, bs, offBy_M hV h hk, bs, nI_1]
    by_cases ek : k = i
    · rw [if_pos (by rw [ek]), ek, decide_eq_true rfl, Bool.or_true, if_pos rfl, nI_add]
    · rw [if_neg (i_ne (by omega) (by omega) ek), decide_eq_false (Ne.symm ek), Bool.or_false]
      cases (tF a i).testBit k with
      | true =>
        rw [if_pos (by rfl), if_pos rfl, nI_add]
      | false =>
        rw [if_neg (by decide), if_neg (by decide), Int32.add_zero]
        rfl
  · show f_X8_around_L5 (nI i) (nI m) ν (nI (aAr a (tF a i ||| 2 ^ i) m (tN a))) (nI (tN a)) = _
    unfold f_X8_around_L5
    rw [AM_0 h, bs, if_pos (nI_le (Nat.le_refl _) (by omega))]
theorem not1 (c : Bool) : 1 - nI c.toNat = nI (!c).toNat := by cases c <;> decide
theorem putM_not (m k : Nat) : putM m k (!m.testBit k) = m ^^^ 2 ^ k := if_neg (by cases m.testBit k <;> decide)
/-- one changes its mind -/
theorem flip_2 (h : Ru t n b a μ ν) {k : Nat} (hk : k < tN a) : ∃ a' μ' ν', (bn1 (f_X6_flip b (nI k) μ) fun m6 => nm (mset m6 b 11 ((m6 b 11) + 1)) fun m7 => some m7) = some μ' ∧ f_X8_changes (nI k) ν = some ν' ∧ Go t n b a μ ν a' μ' ν' ∧ tK a' = tK a ∧ tP a' = tP a := by
  have ⟨_, _, h3, h4, h5, _, _, _⟩ := h
  have hn := h3.1
  have g1 : Go t n b a μ ν (setM a (tM a ^^^ 2 ^ k)) (mset μ b 6 (nI (tM a ^^^ 2 ^ k))) (mset ν 1 (10 + 5 * k) (nI (!(tM a).testBit k).toNat)) := by
    have hp := putM_not (tM a) k
    have hm := AM_M h5 (k := k) (!(tM a).testBit k)
    rw [hp] at hm
    exact h.go (AV_M h3 (by rw [← hp]; exact putM_lt _ h3.2.1 hk)) (AC_M h4) (by rw [mset_s]; exact hm) kpM (SameP.m (by omega)) (SameQ.m (by omega))
  have g2 := g1.tr (go_S g1.1 (i := 11) (v := tS a 11 + 1) (by omega) (by omega))
  refine ⟨_, _, _, ?_, ?_, g2, rfl, rfl⟩
  · rw [flip_C h3 h4 hk, bs, nms, mset_sn (by omega), h4.2.2.1 11 (by omega) (by omega)]
  · unfold f_X8_changes
    rw [of_1 h3 h5 hk, bs, not1, show (1 : Int32) = nI 1 from rfl, sets_n (by omega) (by omega), bs, show 9 + 5 * k + 1 = 10 + 5 * k by omega, mset_s, show (4 : Int32) = nI 4 from rfl, ldM_n (by omega) (by omega), bs, pk_un (by omega), h5.2.1.2.2.2.1, stM_n (by omega) (by omega), bs]
    rfl
theorem ask_n (hV : AV a) {k : Nat} (hk : k < tN a) : ∃ w, w ≤ 1998 ∧ aAsk a k = nI w := by
  obtain ⟨kd, hkd, ek⟩ := (hV.2.2.1 k hk).1
  obtain ⟨p, hp, ep⟩ := (hV.2.2.1 k hk).2.1
  unfold aAsk f_X1_asks
  rw [ek, ep, show dvM (nI p) 2 = some (nI (p / 2)) from dvn p (by omega), show nI p + 5 = nI (p + 5) from nI_add p 5, show 2 * nI (p + 5) = nI (2 * (p + 5)) from pk_mul 2 _]
  rcases (by omega : kd = 0 ∨ kd = 1 ∨ kd = 2 ∨ kd = 3 ∨ kd = 4 ∨ kd = 5) with rfl | rfl | rfl | rfl | rfl | rfl
  · exact ⟨p, by omega, rfl⟩
  · exact ⟨p + 5, by omega, rfl⟩
  · exact ⟨p / 2, by omega, rfl⟩
  · exact ⟨2 * (p + 5), by omega, rfl⟩
  · exact ⟨0, by omega, rfl⟩
  · exact ⟨p, by omega, rfl⟩
/-- the one looked at -/
theorem persuade_2 (h : Ru t n b a μ ν) {v : Int32} (hv : v = -1 ∨ ∃ k, k < tN a ∧ v = nI k) (R : Mem → Option Mem) : ∃ a' μ' ν', f_X6_persuade b v μ = some μ' ∧ (if v < 0 then f_X8_goesOn_J102 ν else bn1 (f_X8_of v 0 ν) fun v19 => if v19 = 5 then f_X8_goesOn_J102 ν else bn1 (f_X8_forNow ν) fun v20 => bn1 (f_X8_around v (v20 ^^^ (1 <<< (v &&& 31))) ν) fun v21 => bn1 (f_X8_forNow ν) fun v22 => bn1 (f_X8_around v v22 ν) fun v23 => if v23 ≤ v21 then f_X8_goesOn_J102 ν else bn1 (f_X8_changes v ν) fun m24 => bn1 (f_X8_asks v m24) fun v25 => bn1 (f_X8_pays v v25 m24) fun m26 => f_X8_goesOn_J102 m26) = f_X8_goesOn_J102 ν' ∧ Go t n b a μ ν a' μ' ν' := by
  have ⟨_, _, h3, h4, h5, _, _, _⟩ := h
  have hn := h3.1
  unfold f_X6_persuade
  rcases hv with rfl | ⟨k, hk, rfl⟩
  · rw [if_pos (by decide), if_pos (by decide)]
    exact ⟨a, μ, ν, rfl, rfl, Go.rf h⟩
  · have hf := tF_lt h3 hk
    have hm := tM_lt h3
    have h2k : 2 ^ k < 1024 := Nat.pow_lt_pow_right (n := 10) (by omega) (by omega)
    rw [if_neg (nI_pos (by omega)), if_neg (nI_pos (by omega)), h4.1, if_neg (nI_ge hk (by omega)), ldM_n (by omega) (by omega), bs, (h4.2.2.2 k hk).1, of_0 h3 h5 hk, bs]
    by_cases c5 : tK a k = 5
    · rw [if_pos c5, if_pos c5]
      exact ⟨a, μ, ν, rfl, rfl, Go.rf h⟩
    · rw [if_neg c5, if_neg c5, ldM_n (by omega) (by omega), bs, (h4.2.2.2 k hk).2.2.2, nms, one_shl k (by omega), fa_or, h4.2.1, fb_xorI, offAll_C h3 h4 (Nat.or_lt_two_pow (n := 10) hf h2k), bs, offAll_C h3 h4 (Nat.or_lt_two_pow (n := 10) hf h2k), bs, forNow_M h3 h5, bs, fb_xorI, around_M h3 h5 hk, bs, bs, around_M h3 h5 hk, bs]
      have l1 := aAr_le a (tF a k ||| 2 ^ k) (tM a) (tN a)
      have l2 := aAr_le a (tF a k ||| 2 ^ k) (tM a ^^^ 2 ^ k) (tN a)
      by_cases cc : aAr a (tF a k ||| 2 ^ k) (tM a) (tN a) ≤ aAr a (tF a k ||| 2 ^ k) (tM a ^^^ 2 ^ k) (tN a)
      · rw [if_pos (nI_le cc (by omega)), if_pos (nI_le cc (by omega))]
        exact ⟨a, μ, ν, rfl, rfl, Go.rf h⟩
      · rw [if_neg (nI_ge (by omega) (by omega)), if_neg (nI_ge (by omega) (by omega))]
        obtain ⟨a1, μ1, ν1, c1, c2, g1, gk, gp⟩ := flip_2 h hk
        have ⟨_, _, f3, f4, f5, _, _, _⟩ := g1.1
        have hk1 : k < tN a1 := by rw [g1.2.1.1]; exact hk
        obtain ⟨w, hw, ew⟩ := ask_n f3 hk1
        obtain ⟨a2, μ2, ν2, d1, d2, g2⟩ := pay_2 g1.1 hk1 hw
        refine ⟨a2, μ2, ν2, ?_, ?_, g1.tr g2⟩
        · have e : ∀ F : Mem → Option Mem, (bn1 (f_X6_flip b (nI k) μ) fun m6 => nm (mset m6 b 11 ((m6 b 11) + 1)) fun m7 => F m7) = bn1 (bn1 (f_X6_flip b (nI k) μ) fun m6 => nm (mset m6 b 11 ((m6 b 11) + 1)) fun m7 => some m7) F := fun F => by
            cases f_X6_flip b (nI k) μ <;> rfl
          rw [e, c1, bs, asks_C f3 f4 hk1, bs, ew, d1, bs]
        · rw [c2, bs, asks_M f3 f5 hk1, bs, ew, d2, bs]
theorem year_end (h : Ru t n b a μ ν) : ∃ ν', f_X8_goesOn_J155 ν = some ν' ∧ Ru t n b (setS a 12 (tS a 12 + 1)) (mset μ b 12 (μ b 12 + 1)) ν' ∧ SameP b μ (mset μ b 12 (μ b 12 + 1)) ∧ SameQ ν ν' := by
  have ⟨_, _, h3, h4, h5, _, _, _⟩ := h
  refine ⟨mset ν 1 2 (tS a 12 + 1), ?_, ?_, SameP.m (by omega), SameQ.m (by omega)⟩
  · unfold f_X8_goesOn_J155
    rw [show ldM (ν 1) 3059 2 = some (tS a 12) from (ldk (k := 2) (by omega)).trans (by rw [h5.2.1.2.1]), bs, show (2 : Int32) = nI 2 from rfl, stM_n (by omega) (by omega), bs]
  · rw [h4.2.2.1 12 (by omega) (by omega)]
    exact h.step (AV_S' h3 (by omega)) (AC_S h4 (by omega)) (by rw [mset_s]; exact AM_S h5 (i := 12) (by omega) (by omega)) (by
      unfold tX
      show (upd (tS a) 12 (tS a 12 + 1) 14).toNatClampNeg = _
      rw [pk_un (by omega)]) (SameP.m (by omega)) (SameQ.m (by omega))
/-- the whim, and the year's end -/
theorem whim_2 (h : Ru t n b a μ ν) : ∃ a' μ' ν', f_X6_haveWhim b μ = some μ' ∧ f_X8_goesOn_J102 ν = f_X8_goesOn_J155 ν' ∧ Go t n b a μ ν a' μ' ν' := by
  have ⟨_, _, h3, h4, h5, _, _, _⟩ := h
  have hn := h3.1
  unfold f_X6_haveWhim f_X8_goesOn_J102
  rw [h4.1, AM_0 h5, bs]
  by_cases h0 : tN a = 0
  · rw [h0, if_pos (show nI 0 = 0 from rfl), if_pos (show nI 0 ≤ 0 by decide)]
    exact ⟨a, μ, ν, rfl, rfl, Go.rf h⟩
  · have hp : 0 < tN a := Nat.pos_of_ne_zero h0
    rw [if_neg (nI_ne0 hp (by omega)), if_neg (nI_nle hp (by omega))]
    obtain ⟨d1, d2, g⟩ := draw_2 h
    have dl := drw_lt (tS a 13)
    have ⟨_, _, k3, k4, k5, _, _, _⟩ := g.1
    obtain ⟨z, hz, e9⟩ := k3.2.2.2.2.2.2.1
    have eN : tN (drawA a) = tN a := rfl
    rw [d1, d2, bs2, bs2, show (100 : Int32) = nI 100 from rfl, rm_n (by unfold drwA; omega) (by omega) (by omega), bs, bs, k4.2.2.1 9 (by omega) (by omega), e9, show ldM (mset ν 1 5 (nx (tS a 13)) 1) 3059 8 = some (nI z) from (ldk (k := 8) (by omega)).trans (by rw [k5.2.1.2.2.2.2.2.2.2, e9]), bs]
    have lm : drwA a % 100 < 100 := Nat.mod_lt _ (by omega)
    by_cases hc : drwA a % 100 < z
    · rw [if_pos (nI_lt hc (by omega)), if_neg (nI_ge hc (by omega))]
      obtain ⟨q1, q2, g2⟩ := draw_2 g.1
      have dl2 := drw_lt (tS (drawA a) 13)
      have ⟨_, _, j3, j4, j5, _, _, _⟩ := g2.1
      have eN2 : tN (drawA (drawA a)) = tN a := rfl
      have hi : drwA (drawA a) % tN a < tN (drawA (drawA a)) := Nat.mod_lt _ hp
      rw [q1, q2, bs2, bs2, j4.1, AM_0 j5, bs, eN2, rm_n (by unfold drwA; omega) hp (by omega), bs, bs, ldM_n (by omega) (by omega), bs, (j4.2.2.2 _ hi).1, of_0 j3 j5 hi, bs]
      by_cases c5 : tK (drawA (drawA a)) (drwA (drawA a) % tN a) = 5
      · rw [if_pos c5, if_pos c5]
        exact ⟨_, _, _, rfl, rfl, g.tr g2⟩
      · rw [if_neg c5, if_neg c5]
        obtain ⟨a1, μ1, ν1, c1, c2, g1, -, -⟩ := flip_2 g2.1 hi
        rw [c1, c2, bs]
        exact ⟨a1, μ1, ν1, rfl, rfl, (g.tr g2).tr g1⟩
    · rw [if_neg (nI_nlt (by omega) (by omega)), if_pos (nI_le (by omega) (by omega))]
      exact ⟨_, _, _, rfl, rfl, g⟩
/-- one year of both -/
theorem year_2 (h : Ru t n b a μ ν) {N k : Nat} (hN : N < 2 ^ 31) (hk : k < N) : ∃ a' μ' ν', f_X6_pass_L2 b (nI N) (nI k) μ = some (.inl (nI (k + 1), μ')) ∧ f_X8_goesOn ν = some ν' ∧ Ru t n b a' μ' ν' ∧ tN a' = tN a ∧ tS a' 12 = tS a 12 + 1 ∧ SameP b μ μ' ∧ SameQ ν ν' := by
  obtain ⟨a1, μ1, ν1, c1, m1, g1⟩ := payDues_2 h (fun m => some m)
  obtain ⟨v, a2, μ2, ν2, c2, m2, g2, hv⟩ := looked_2 g1.1
  obtain ⟨a3, μ3, ν3, c3, m3, g3⟩ := persuade_2 g2.1 hv (fun m => some m)
  obtain ⟨a4, μ4, ν4, c4, m4, g4⟩ := whim_2 g3.1
  obtain ⟨ν5, m5, h5, p5, q5⟩ := year_end g4.1
  have g := ((g1.tr g2).tr g3).tr g4
  refine ⟨setS a4 12 (tS a4 12 + 1), _, ν5, ?_, ?_, h5, g.2.1.1, ?_, g.2.2.1.tr p5, g.2.2.2.tr q5⟩
  · unfold f_X6_pass_L2
    rw [if_neg (nI_ge hk hN), c1, bs, c2, bs2, c3, bs, c4, bs, nms, nI_1]
  · unfold f_X8_goesOn f_X8_goesOn_K2_43
    rw [m1, bs, m2, bs2, m3, m4, m5]
  · show upd (tS a4) 12 (tS a4 12 + 1) 12 = _
    rw [pk_us, g.2.1.2.2]
/-- many years of both -/
theorem many_2 (h : Ru t n b a μ ν) {N : Nat} (hN : N < 4000) : ∃ a' μ' ν', f_X6_pass b (nI N) μ = some μ' ∧ f_X8_goesOnMany (nI N) ν = some ν' ∧ Ru t n b a' μ' ν' ∧ tN a' = tN a ∧ SameP b μ μ' ∧ SameQ ν ν' := by
  have hl : ∃ x y, lpF (fun v => f_X6_pass_L2 b (nI N) v.1 v.2) 4000 (0, μ) = some x ∧ lpF (fun v => f_X8_goesOnMany_L2 (nI N) v.1 v.2) 4000 (0, ν) = some y ∧ ∃ a', Ru t n b a' x y ∧ tN a' = tN a ∧ SameP b μ x ∧ SameQ ν y := by
    refine lpT (fun k v w => ∃ a' μ' ν', v = (nI k, μ') ∧ w = (nI k, ν') ∧ Ru t n b a' μ' ν' ∧ tN a' = tN a ∧ SameP b μ μ' ∧ SameQ ν ν') (fun x y => ∃ a', Ru t n b a' x y ∧ tN a' = tN a ∧ SameP b μ x ∧ SameQ ν y) N (fun k v w hk hp => ?_) (by omega) (by omega) ⟨a, μ, ν, rfl, rfl, h, rfl, SameP.rf b μ, SameQ.rf ν⟩
    obtain ⟨a', μ', ν', rfl, rfl, g, gn, gp, gq⟩ := hp
    by_cases he : k = N
    · refine Or.inl ⟨μ', ν', ?_, ?_, a', g, gn, gp, gq⟩
      · show f_X6_pass_L2 b (nI N) (nI k) μ' = _
        unfold f_X6_pass_L2
        rw [he, if_pos (nI_le (Nat.le_refl _) (by omega))]
      · show f_X8_goesOnMany_L2 (nI N) (nI k) ν' = _
        unfold f_X8_goesOnMany_L2
        rw [he, if_pos (nI_le (Nat.le_refl _) (by omega))]
    · obtain ⟨a2, μ2, ν2, c1, c2, g2, n2, -, p2, q2⟩ := year_2 g (N := N) (k := k) (by omega) (by omega)
      refine Or.inr ⟨by omega, (nI (k + 1), μ2), (nI (k + 1), ν2), c1, ?_, a2, μ2, ν2, rfl, rfl, g2, n2.trans gn, gp.tr p2, gq.tr q2⟩
      show f_X8_goesOnMany_L2 (nI N) (nI k) ν' = _
      unfold f_X8_goesOnMany_L2
      rw [if_neg (nI_ge (by omega) (by omega)), c2, bs, nI_1]
  obtain ⟨x, y, e1, e2, a', g⟩ := hl
  refine ⟨a', x, y, ?_, ?_, g⟩
  · unfold f_X6_pass f_X6_pass_K2_39
    rw [e1, bs]
  · unfold f_X8_goesOnMany f_X8_goesOnMany_K2_17
    rw [e2, bs]
end RY
