/-! SETTLES, WON -/
/-- as lpT; the second may go one step further -/
theorem lpU {V X W Y : Type} {b1 : V → Option (V ⊕ X)} {b2 : W → Option (W ⊕ Y)} (P : Nat → V → W → Prop) (Q : X → Y → Prop) (N : Nat) (h : ∀ k v w, k ≤ N → P k v w → (∃ x y, b1 v = some (.inr x) ∧ (b2 w = some (.inr y) ∨ ∃ w', b2 w = some (.inl w') ∧ b2 w' = some (.inr y)) ∧ Q x y) ∨ (k < N ∧ ∃ v' w', b1 v = some (.inl v') ∧ b2 w = some (.inl w') ∧ P (k + 1) v' w')) {f1 f2 : Nat} (h1 : N < f1) (h2 : N + 1 < f2) {v : V} {w : W} (h0 : P 0 v w) : ∃ x y, lpF b1 f1 v = some x ∧ lpF b2 f2 w = some y ∧ Q x y := by
  have ex : ∀ (f : Nat) (w : W) (y : Y), 1 < f → (b2 w = some (.inr y) ∨ ∃ w', b2 w = some (.inl w') ∧ b2 w' = some (.inr y)) → lpF b2 f w = some y := by
    intro f w y hf hw
    cases f with
    | zero => omega
    | succ f =>
      cases f with
      | zero => omega
      | succ f =>
        rcases hw with e | ⟨w', e, e2⟩
        · rw [lpF, e]
        · rw [lpF, e]
          show lpF b2 (f + 1) w' = some y
          rw [lpF, e2]
  have g : ∀ m k f1 f2 v w, k + m = N → m < f1 → m + 1 < f2 → P k v w → ∃ x y, lpF b1 f1 v = some x ∧ lpF b2 f2 w = some y ∧ Q x y := by
    intro m
    induction m with
    | zero =>
      intro k f1 f2 v w hk hf1 hf2 hp
      cases f1 with
      | zero => omega
      | succ f1 =>
        rcases h k v w (by omega) hp with ⟨x, y, e1, e2, hq⟩ | ⟨hl, -⟩
        · exact ⟨x, y, by rw [lpF, e1], ex f2 w y (by omega) e2, hq⟩
        · omega
    | succ m ih =>
      intro k f1 f2 v w hk hf1 hf2 hp
      cases f1 with
      | zero => omega
      | succ f1 =>
        rcases h k v w (by omega) hp with ⟨x, y, e1, e2, hq⟩ | ⟨hl, v', w', e1, e2, hp'⟩
        · exact ⟨x, y, by rw [lpF, e1], ex f2 w y (by omega) e2, hq⟩
        · cases f2 with
          | zero => omega
          | succ f2 =>
            obtain ⟨x, y, g1, g2, hq⟩ := ih (k + 1) f1 f2 v' w' (by omega) (by omega) (by omega) hp'
            exact ⟨x, y, by rw [lpF, e1]; exact g1, by rw [lpF, e2]; exact g2, hq⟩
  exact g N 0 f1 f2 v w (by omega) h1 h2 h0
section RW2
variable {t : TB} {n b : Nat} {a : AT} {μ ν : Mem}
theorem one_2 (h : Ru t n b a μ ν) : ∃ a' μ' ν', f_X6_pass b 1 μ = some μ' ∧ f_X8_goesOn ν = some ν' ∧ Ru t n b a' μ' ν' ∧ tN a' = tN a ∧ tS a' 12 = tS a 12 + 1 ∧ SameP b μ μ' ∧ SameQ ν ν' := by
  obtain ⟨a', μ', ν', c1, c2, g⟩ := year_2 h (N := 1) (k := 0) (by omega) (by omega)
  refine ⟨a', μ', ν', ?_, c2, g⟩
  unfold f_X6_pass f_X6_pass_K2_39
  refine (bl (fun k => if k = 0 then ((0 : Int32), μ) else (1, μ')) μ' 1 rfl (by omega) (fun k hk => ?_) ?_).trans rfl
  · rw [show k = 0 by omega]
    exact c1
  · show f_X6_pass_L2 b 1 1 μ' = _
    unfold f_X6_pass_L2
    exact if_pos (by decide)
/-- one turned, of both -/
theorem turn_2 (h : Ru t n b a μ ν) {k : Nat} (hk : k < tN a) : ∃ ν', f_X6_flip b (nI k) μ = some (mset μ b 6 (nI (tM a ^^^ 2 ^ k))) ∧ (bn1 (f_X8_of (nI k) 1 ν) fun v12 => f_X8_sets (nI k) 1 (1 - v12) ν) = some ν' ∧ Go t n b a μ ν (setM a (tM a ^^^ 2 ^ k)) (mset μ b 6 (nI (tM a ^^^ 2 ^ k))) ν' := by
  have ⟨_, _, h3, h4, h5, _, _, _⟩ := h
  have hn := h3.1
  have g1 : Go t n b a μ ν (setM a (tM a ^^^ 2 ^ k)) (mset μ b 6 (nI (tM a ^^^ 2 ^ k))) (mset ν 1 (10 + 5 * k) (nI (!(tM a).testBit k).toNat)) := by
    have hp := putM_not (tM a) k
    have hm := AM_M h5 (k := k) (!(tM a).testBit k)
    rw [hp] at hm
    exact h.go (AV_M h3 (by rw [← hp]; exact putM_lt _ h3.2.1 hk)) (AC_M h4) (by rw [mset_s]; exact hm) kpM (SameP.m (by omega)) (SameQ.m (by omega))
  refine ⟨_, flip_C h3 h4 hk, ?_, g1⟩
  rw [of_1 h3 h5 hk, bs, not1, show (1 : Int32) = nI 1 from rfl, sets_n (by omega) (by omega), show 9 + 5 * k + 1 = 10 + 5 * k by omega]
end RW2
theorem Step_17 : Step Rel C7_17 C8_17 := by
  intro a μ ν hR
  obtain ⟨t, w, h, K⟩ := hR.rt
  obtain ⟨μ1, c0, g0, p0⟩ := think_2 h
  unfold C7_17 C8_17 f_X7_settles f_X8_settles
  rw [c0, bs, laysBy_M, bs]
  have hl : ∃ x y, lpF (fun v => f_X7_settles_L13 v.1 v.2) 4000 (0, μ1) = some x ∧ lpF (fun v => f_X8_settles_L8 v.1 v.2.1 v.2.2) 4000 ((-1), 0, mrow ν 12 (fun q => if q < 59 then ν 1 q else ν 12 q)) = some y ∧ (∃ μ' ν', SameP 31 μ μ' ∧ SameQ (mrow ν 12 (fun q => if q < 59 then ν 1 q else ν 12 q)) ν' ∧ ((∃ k, k ≤ 200 ∧ x = Sum.inl (nI k, μ') ∧ y = (nI k, ν')) ∨ (x = Sum.inr μ' ∧ y = (-1, ν')))) := by
    refine lpU (fun k v z => ∃ a' μ' ν', v = (nI k, μ') ∧ z = (-1, nI k, ν') ∧ Ru t (tX w) 31 a' μ' ν' ∧ SameP 31 μ μ' ∧ SameQ (mrow ν 12 (fun q => if q < 59 then ν 1 q else ν 12 q)) ν') (fun x y => ∃ μ' ν', SameP 31 μ μ' ∧ SameQ (mrow ν 12 (fun q => if q < 59 then ν 1 q else ν 12 q)) ν' ∧ ((∃ k, k ≤ 200 ∧ x = Sum.inl (nI k, μ') ∧ y = (nI k, ν')) ∨ (x = Sum.inr μ' ∧ y = (-1, ν')))) 201 (fun k v z hk hp => ?_) (by omega) (by omega) ⟨w, μ1, _, rfl, rfl, g0, p0, SameQ.rf _⟩
    obtain ⟨a', μ', ν', rfl, rfl, g, gp, gq⟩ := hp
    have ⟨k1, k2, k3, k4, k5, k6, k7, k8⟩ := g
    have hd := aDis_lt k3 (tM a')
    by_cases he : k = 201
    · refine Or.inl ⟨Sum.inr μ', (-1, ν'), ?_, Or.inl ?_, μ', ν', gp, gq, Or.inr ⟨rfl, rfl⟩⟩
      · show f_X7_settles_L13 (nI k) μ' = _
        unfold f_X7_settles_L13
        rw [he, if_pos (show (200 : Int32) < nI 201 by decide)]
      · show f_X8_settles_L8 (-1) (nI k) ν' = _
        unfold f_X8_settles_L8
        rw [he, if_pos (show (200 : Int32) < nI 201 by decide)]
    · obtain ⟨a2, μ2, ν2, c1, c2, g2, n2, -, p2, q2⟩ := one_2 g
      have n200 : ¬ (200 : Int32) < nI k := nI_nlt (a := 200) (by omega) (by omega)
      have m8 : ∀ s, f_X8_settles_J35 (nI k) ν' s = some (.inl (s, nI (k + 1), ν2)) := fun s => by
        unfold f_X8_settles_J35
        rw [c2, bs, nI_1]
      have e7 : f_X7_settles_L13 (nI k) μ' = if aDis a' (tM a') = 0 then some (.inr (.inl (nI k, μ'))) else some (.inl (nI (k + 1), μ2)) := by
        unfold f_X7_settles_L13
        rw [if_neg n200, k4.2.1, unruly_C k3 k4, bs]
        by_cases c : aDis a' (tM a') = 0
        · rw [if_pos c, c]
          rfl
        · rw [if_neg c, if_neg (nI_ne0 (by omega) (by omega)), c1, bs, nI_1]
      have e8 : f_X8_settles_L8 (-1) (nI k) ν' = if aDis a' (tM a') = 0 then some (.inl (nI k, nI (k + 1), ν2)) else some (.inl (-1, nI (k + 1), ν2)) := by
        unfold f_X8_settles_L8
        rw [if_neg n200, if_neg (show ¬ (0 : Int32) ≤ -1 by decide), forNow_M k3 k5, bs, disorder_M k3 k5, bs, m8, m8]
        by_cases c : aDis a' (tM a') = 0
        · rw [if_pos c, c]
          rfl
        · rw [if_neg c, if_neg (nI_ne0 (by omega) (by omega))]
      by_cases c : aDis a' (tM a') = 0
      · rw [if_pos c] at e7 e8
        refine Or.inl ⟨Sum.inl (nI k, μ'), (nI k, ν2), e7, Or.inr ⟨_, e8, ?_⟩, μ', ν2, gp, gq.tr q2, Or.inl ⟨k, by omega, rfl, rfl⟩⟩
        show f_X8_settles_L8 (nI k) (nI (k + 1)) ν2 = _
        unfold f_X8_settles_L8
        by_cases c3 : (200 : Int32) < nI (k + 1)
        · rw [if_pos c3]
        · rw [if_neg c3, if_pos (nI_pos' (by omega))]
      · rw [if_neg c] at e7 e8
        exact Or.inr ⟨by omega, _, _, e7, e8, a2, μ2, ν2, rfl, rfl, g2, gp.tr p2, gq.tr q2⟩
  obtain ⟨x, y, e1, e2, μ', ν', gp, gq, hx⟩ := hl
  obtain ⟨b1, b2⟩ := lays_back gq
  rw [e1, e2, bs, bs]
  unfold f_X8_settles_K8_46
  rcases hx with ⟨k, hk, rfl, rfl⟩ | ⟨rfl, rfl⟩
  · refine ⟨nI k, μ', _, rfl, ?_, hR.of gp.c31 b2⟩
    show (bn1 (f_X8_laysBack ν') fun m4 => bn1 (f_X8_orNone (nI k)) fun v5 => some (v5, m4)) = _
    rw [b1, bs, orNone_n (by omega), bs]
  · refine ⟨-1000000005, μ', _, rfl, ?_, hR.of gp.c31 b2⟩
    show (bn1 (f_X8_laysBack ν') fun m4 => bn1 (f_X8_orNone (-1)) fun v5 => some (v5, m4)) = _
    rw [b1, bs]
    rfl
/-- the best won so far, of both -/
def wB (x3 x4 y3 y4 : Int32) : Prop := (x3 = -1000000005 ∧ x4 = -1000000005 ∧ y3 = -1) ∨ ∃ i, i < 10 ∧ x3 = nI i ∧ y3 = nI i ∧ x4 = y4
theorem Step_18 : Step Rel C7_18 C8_18 := by
  intro a μ ν hR
  obtain ⟨t, w, h, K⟩ := hR.rt
  unfold C7_18 C8_18 f_X7_won f_X8_won
  simp only [o1_60, n1_60, o0_1, n0_1, bs, i01, i10]
  by_cases h1 : 1 ≤ (a 1).toInt ∧ (a 1).toInt ≤ 60
  · by_cases h2 : 0 ≤ (a 2).toInt ∧ (a 2).toInt ≤ 1
    · obtain ⟨N, hN, e⟩ := upto (x := a 1) (n := 60) ⟨by omega, h1.2⟩ rfl
      obtain ⟨hV, hY, hC, hM, hTM, hTV, hTC⟩ := h
      have hn := hV.1
      have x14 := (tX_eq hV).2
      simp only [if_pos h1, if_pos h2]
      rw [e, laysBy_M, bs]
      have hl : ∃ x y, lpF (fun v => f_X7_won_L32 (nI N) v.1 v.2.1 v.2.2.1 v.2.2.2) 4000 ((-1000000005), (-1000000005), 0, μ) = some x ∧ lpF (fun v => f_X8_won_L37 (nI N) v.1 v.2.1 v.2.2.1 v.2.2.2) 4000 ((-1), 0, 0, mrow ν 12 (fun q => if q < 59 then ν 1 q else ν 12 q)) = some y ∧ (∃ x3 x4 y3 y4 μ' ν', x = (x3, x4, μ') ∧ y = (y3, y4, ν') ∧ wB x3 x4 y3 y4 ∧ SameP 31 μ μ' ∧ SameM ν ν') := by
        refine lpT (fun k v z => ∃ x3 x4 y3 y4 μ' ν', v = (x3, x4, nI k, μ') ∧ z = (y3, y4, nI k, ν') ∧ wB x3 x4 y3 y4 ∧ SameP 31 μ μ' ∧ SameM ν ν' ∧ ∀ q, q < 59 → ν' 12 q = ν 1 q) (fun x y => ∃ x3 x4 y3 y4 μ' ν', x = (x3, x4, μ') ∧ y = (y3, y4, ν') ∧ wB x3 x4 y3 y4 ∧ SameP 31 μ μ' ∧ SameM ν ν') (tN w) (fun k v z hk hp => ?_) (by omega) (by omega) ⟨_, _, _, _, μ, _, rfl, rfl, Or.inl ⟨rfl, rfl, rfl⟩, SameP.rf 31 μ, fun i i1 i2 i3 i4 i5 i6 => mrow_n i2, fun q hq => by rw [mrow_s, if_pos hq]⟩
        obtain ⟨x3, x4, y3, y4, μ', ν', rfl, rfl, hB, gp, gm, g12⟩ := hp
        have e1 : ν' 1 = ν 1 := gm 1 (by omega) (by omega) (by omega) (by omega) (by omega) (by omega)
        have hC' : AC w μ' 21 := hC.of (fun i i1 i2 => gp i (by omega) (by omega))
        have hM' : AM w (ν' 1) := by rw [e1]; exact hM
        by_cases he : k = tN w
        · refine Or.inl ⟨(x3, x4, μ'), (y3, y4, ν'), ?_, ?_, x3, x4, y3, y4, μ', ν', rfl, rfl, hB, gp, gm⟩
          · show f_X7_won_L32 (nI N) x3 x4 (nI k) μ' = _
            unfold f_X7_won_L32
            rw [hC'.1, he, if_pos (nI_le (Nat.le_refl _) (by omega))]
          · show f_X8_won_L37 (nI N) y3 y4 (nI k) ν' = _
            unfold f_X8_won_L37
            rw [AM_0 hM', bs, he, if_pos (nI_le (Nat.le_refl _) (by omega))]
        · have hk2 : k < tN w := by omega
          obtain ⟨μ1, c0, cA, cS⟩ := become_C (b := 31) (b0 := 21) (by omega) hC' hV
          have g0 : Ru t (tX w) 31 w μ1 ν' := ⟨by omega, rfl, hV, cA, hM', by rw [e1]; exact hTM, hTV, hTC.of x14 (fun i i1 i2 i3 => by rw [cS i (by omega)]; exact gp i (by omega) i3)⟩
          obtain ⟨ν1, t1, t2, gt⟩ := turn_2 g0 hk2
          obtain ⟨a2, μ2, ν2, m1, m2, g2, n2, p2, q2⟩ := many_2 gt.1 (N := N) (by omega)
          have ⟨k1, k2, k3, k4, k5, k6, k7, k8⟩ := g2
          have q3 : SameQ ν' ν2 := gt.2.2.2.tr q2
          have lb : f_X8_laysBack ν2 = some (mrow ν2 1 (ν 1)) := by
            rw [laysBack_M]
            congr 2
            funext q
            by_cases c : q < 59
            · rw [if_pos c, q3.1 12 (by omega) (by omega) (by omega), g12 q c]
            · rw [if_neg c, q3.2 q (by omega), e1]
          have gp2 : SameP 31 μ μ2 := ((gp.tr (fun i i1 i2 => cS i i1)).tr gt.2.2.1).tr p2
          have gm2 : SameM ν (mrow ν2 1 (ν 1)) := fun i i1 i2 i3 i4 i5 i6 => by
            by_cases c : i = 1
            · rw [c, mrow_s]
            · rw [mrow_n c, q3.1 i c i3 i4]
              exact gm i i1 i2 i3 i4 i5 i6
          have g122 : ∀ q, q < 59 → (mrow ν2 1 (ν 1)) 12 q = ν 1 q := fun q hq => by
            rw [mrow_n (by omega), q3.1 12 (by omega) (by omega) (by omega)]
            exact g12 q hq
          have e7 : f_X7_won_L32 (nI N) x3 x4 (nI k) μ' = some (.inl (if x3 = -1000000005 then (nI k, nI (aAll a2), nI (k + 1), μ2) else if x4 ≤ nI (aAll a2) then (x3, x4, nI (k + 1), μ2) else (nI k, nI (aAll a2), nI (k + 1), μ2))) := by
            unfold f_X7_won_L32 f_X7_won_J94 f_X7_won_J101
            rw [hC'.1, if_neg (nI_ge hk2 (by omega)), c0, bs, t1, bs, m1, bs, allOff_C k3 k4, bs, nI_1]
            split
            · rfl
            · split <;> rfl
          have e8 : f_X8_won_L37 (nI N) y3 y4 (nI k) ν' = some (.inl (if y3 < 0 then (nI k, nI (aAll a2), nI (k + 1), mrow ν2 1 (ν 1)) else if y4 ≤ nI (aAll a2) then (y3, y4, nI (k + 1), mrow ν2 1 (ν 1)) else (nI k, nI (aAll a2), nI (k + 1), mrow ν2 1 (ν 1)))) := by
            unfold f_X8_won_L37 f_X8_won_J90 f_X8_won_J97
            rw [AM_0 hM', bs, if_neg (nI_ge hk2 (by omega))]
            have ea : ∀ F : Mem → Option ((Int32 × Int32 × Int32 × Mem) ⊕ (Int32 × Int32 × Mem)), (bn1 (f_X8_of (nI k) 1 ν') fun v12 => bn1 (f_X8_sets (nI k) 1 (1 - v12) ν') F) = bn1 (bn1 (f_X8_of (nI k) 1 ν') fun v12 => f_X8_sets (nI k) 1 (1 - v12) ν') F := fun F => by
              cases f_X8_of (nI k) 1 ν' <;> rfl
            rw [ea, t2, bs, m2, bs, allOff_M k3 k5, bs, lb, bs, nI_1]
            split
            · rfl
            · split <;> rfl
          refine Or.inr ⟨hk2, _, _, e7, e8, ?_⟩
          rcases hB with ⟨b1, b2, b3⟩ | ⟨i, hi, b1, b2, b3⟩
          · rw [if_pos b1, if_pos (show y3 < 0 by rw [b3]; decide)]
            exact ⟨_, _, _, _, _, _, rfl, rfl, Or.inr ⟨k, by omega, rfl, rfl, rfl⟩, gp2, gm2, g122⟩
          · rw [b1, b2, b3, if_neg (nI_notE (by omega)), if_neg (nI_pos (by omega))]
            by_cases c : y4 ≤ nI (aAll a2)
            · rw [if_pos c, if_pos c]
              exact ⟨_, _, _, _, _, _, rfl, rfl, Or.inr ⟨i, hi, rfl, rfl, rfl⟩, gp2, gm2, g122⟩
            · rw [if_neg c, if_neg c]
              exact ⟨_, _, _, _, _, _, rfl, rfl, Or.inr ⟨k, by omega, rfl, rfl, rfl⟩, gp2, gm2, g122⟩
      obtain ⟨x, y, e1, e2, x3, x4, y3, y4, μ', ν', rfl, rfl, hB, gp, gm⟩ := hl
      rw [e1, e2, bs, bs]
      unfold f_X7_won_K32_107 f_X8_won_K37_103
      have fin : Rel μ' ν' := hR.of gp.c31 gm
      rcases hB with ⟨rfl, rfl, rfl⟩ | ⟨i, hi, rfl, rfl, rfl⟩
      · rw [if_neg (show ¬ (0 : Int32) ≤ -1 by decide)]
        by_cases c : a 2 = 0
        · rw [if_pos c]
          exact ⟨_, _, _, rfl, rfl, fin⟩
        · rw [if_neg c]
          exact ⟨_, _, _, rfl, rfl, fin⟩
      · rw [if_pos (nI_pos' (by omega))]
        by_cases c : a 2 = 0
        · rw [if_pos c, if_pos c]
          exact ⟨_, _, _, rfl, rfl, fin⟩
        · rw [if_neg c, if_neg c]
          exact ⟨_, _, _, rfl, rfl, fin⟩
    · simp only [if_pos h1, if_neg h2]
      exact ⟨-1000000001, μ, ν, rfl, rfl, hR⟩
  · simp only [if_neg h1]
    exact ⟨-1000000001, μ, ν, rfl, rfl, hR⟩
