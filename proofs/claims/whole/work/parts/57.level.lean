/-! THE READER: levels -/
/-- does this sign join at this level? -/
def sgL (l c : Nat) : Bool := if l = 0 then decide (c = 124) else if l = 1 then decide (c = 38) else if l = 2 then (decide (c = 60) || decide (c = 61) || decide (c = 62)) else if l = 3 then (decide (c = 43) || decide (c = 45)) else (decide (c = 42) || decide (c = 47))
set_option maxRecDepth 100000 in
theorem sgC : ∀ l, l < 5 → ∀ c, c < 256 → decide (sIx (6 + l) (((nI c).toUInt32 % 65536).toInt32) < 0) = !sgL l c := by decide +kernel
theorem sgN {l c : Nat} (h : sgL l c = true) : sgn c ∧ c ≠ 33 ∧ chs c = 1 := by
  unfold sgL at h
  unfold sgn
  have hc : c = 124 ∨ c = 38 ∨ c = 60 ∨ c = 61 ∨ c = 62 ∨ c = 43 ∨ c = 45 ∨ c = 42 ∨ c = 47 := by
    split at h
    · simp at h; omega
    · split at h
      · simp at h; omega
      · split at h
        · simp at h; omega
        · split at h
          · simp at h; omega
          · simp at h; omega
  refine ⟨by omega, by omega, ?_⟩
  rcases hc with rfl | rfl | rfl | rfl | rfl | rfl | rfl | rfl | rfl <;> decide
/-- a side of a level of both: what binds closer -/
def HS (L : Nat) (T : Nat → Nat) (key base : Nat) (μ0 ν0 : Mem) (l p q n m : Nat) : Prop := ∀ s f g k w S μ ν, St L T key base μ0 ν0 s f g k w p q S μ ν → k ≤ s → Res L T key base μ0 ν0 s k p q S (r_C n 4 (nI l) (nI p) (nI q) μ) (r_M m (l + 1) (nI key) ν)
section PC2
variable {L : Nat} {T : Nat → Nat} {key base : Nat} {μ0 ν0 μ ν : Mem} {s f g k w p q : Nat} {S : Nat → Nat × Nat}
theorem joins_C' (h : St L T key base μ0 ν0 s f g k w p q S μ ν) {l : Nat} (hl : l < 5) : f_X3_joinsHere (nI l) μ = some (if s < L ∧ sgL l (T s) = true then 1 else 0) := by
  obtain ⟨hT, ⟨c2, c3, c4, c5, c6, c7, c8⟩, -, hK, -⟩ := h
  have hL := hT.1
  have sL : s ≤ L := by have := hK.1; have := hK.2.1; omega
  have e6 : f_X3_signsOf (nI l) = some (6 + l) := by
    rcases (by omega : l = 0 ∨ l = 1 ∨ l = 2 ∨ l = 3 ∨ l = 4) with rfl | rfl | rfl | rfl | rfl <;> rfl
  unfold f_X3_joinsHere
  rw [c3, c2, e6, bs]
  by_cases c : s < L
  · obtain ⟨t1, t2, -⟩ := hT.2 s c
    have e := sgC l hl (T s) t1
    rw [if_pos (nI_lt c (by omega)), ldM_n (by omega) (by omega), bs, t2]
    by_cases d : sgL l (T s) = true
    · rw [d] at e
      rw [if_neg (of_decide_eq_false e), if_pos ⟨c, d⟩]
    · rw [Bool.eq_false_iff.mpr d] at e
      rw [if_pos (of_decide_eq_true e), if_neg (fun z => d z.2)]
  · rw [if_neg (nI_nlt (by omega) (by omega)), if_neg (fun z => c z.1)]
/-- the reference's levels, in one form -/
def gB (l : Nat) (rec : Nat → Int32 → Mem → Option (Int32 × Mem)) (a0 : Int32) (d : Prop) [Decidable d] (x : Int32) (m5 : Mem) : Option (Mem ⊕ (Mem ⊕ Mem)) := if d then (bn1 (f_X8_nextToken m5) fun m7 => bn2 (rec l a0 m7) fun v8 m9 => if v8 = 0 then some (.inr (.inl m9)) else bn1 (f_X8_step 2 x m9) fun m10 => some (.inl m10)) else some (.inr (.inr m5))
def lM (l : Nat) (rec : Nat → Int32 → Mem → Option (Int32 × Mem)) (a0 : Int32) (m5 : Mem) : Option (Mem ⊕ (Mem ⊕ Mem)) := if l = 0 then f_X8_either_L10 rec a0 m5 else if l = 1 then f_X8_both_L10 rec a0 m5 else if l = 3 then f_X8_sum_L10 rec a0 m5 else f_X8_term_L10 rec a0 m5
theorem lM_g (h : St L T key base μ0 ν0 s f g k w p q S μ ν) {l : Nat} (hl : l = 0 ∨ l = 1 ∨ l = 3 ∨ l = 4) (rec : Nat → Int32 → Mem → Option (Int32 × Mem)) (a0 : Int32) : lM l rec a0 ν = gB (l + 1) rec a0 (s < L ∧ sgL l (T s) = true) (nI (T s)) ν := by
  have sg : ∀ c, chs c = 1 → c < 256 → f_X8_isSign (nI c) ν = some (if s < L ∧ T s = c then 1 else 0) := fun c h1 h2 => sign_M h h1 h2
  unfold gB
  rcases hl with rfl | rfl | rfl | rfl
  · show f_X8_either_L10 rec a0 ν = _
    unfold f_X8_either_L10
    rw [show f_X8_isSign 124 ν = _ from sg 124 (by decide) (by decide), bs, i10]
    have e : sgL 0 (T s) = decide (T s = 124) := rfl
    by_cases c : s < L ∧ T s = 124
    · rw [if_pos c, if_pos ⟨c.1, by rw [e, decide_eq_true c.2]⟩, c.2]
      rfl
    · rw [if_neg c, if_neg (fun z => c ⟨z.1, of_decide_eq_true (e ▸ z.2)⟩)]
  · show f_X8_both_L10 rec a0 ν = _
    unfold f_X8_both_L10
    rw [show f_X8_isSign 38 ν = _ from sg 38 (by decide) (by decide), bs, i10]
    have e : sgL 1 (T s) = decide (T s = 38) := rfl
    by_cases c : s < L ∧ T s = 38
    · rw [if_pos c, if_pos ⟨c.1, by rw [e, decide_eq_true c.2]⟩, c.2]
      rfl
    · rw [if_neg c, if_neg (fun z => c ⟨z.1, of_decide_eq_true (e ▸ z.2)⟩)]
  · show f_X8_sum_L10 rec a0 ν = _
    unfold f_X8_sum_L10 f_X8_sum_J28
    rw [show f_X8_isSign 43 ν = _ from sg 43 (by decide) (by decide), bs, i10, show f_X8_isSign 45 ν = _ from sg 45 (by decide) (by decide), bs, i10]
    have e : sgL 3 (T s) = (decide (T s = 43) || decide (T s = 45)) := rfl
    by_cases c : s < L ∧ T s = 43
    · rw [if_pos c, if_pos ⟨c.1, by rw [e, decide_eq_true c.2]; rfl⟩, (sign_T h c.1 (by rw [c.2]; decide)).2.1]
    · rw [if_neg c]
      by_cases c2 : s < L ∧ T s = 45
      · rw [if_pos c2, if_pos ⟨c2.1, by rw [e, decide_eq_true c2.2, Bool.or_true]⟩, (sign_T h c2.1 (by rw [c2.2]; decide)).2.1]
      · rw [if_neg c2, if_neg (fun z => by
          rw [e] at z
          simp at z
          rcases z.2 with y | y
          · exact c ⟨z.1, y⟩
          · exact c2 ⟨z.1, y⟩)]
  · show f_X8_term_L10 rec a0 ν = _
    unfold f_X8_term_L10 f_X8_term_J28
    rw [show f_X8_isSign 42 ν = _ from sg 42 (by decide) (by decide), bs, i10, show f_X8_isSign 47 ν = _ from sg 47 (by decide) (by decide), bs, i10]
    have e : sgL 4 (T s) = (decide (T s = 42) || decide (T s = 47)) := rfl
    by_cases c : s < L ∧ T s = 42
    · rw [if_pos c, if_pos ⟨c.1, by rw [e, decide_eq_true c.2]; rfl⟩, (sign_T h c.1 (by rw [c.2]; decide)).2.1]
    · rw [if_neg c]
      by_cases c2 : s < L ∧ T s = 47
      · rw [if_pos c2, if_pos ⟨c2.1, by rw [e, decide_eq_true c2.2, Bool.or_true]⟩, (sign_T h c2.1 (by rw [c2.2]; decide)).2.1]
      · rw [if_neg c2, if_neg (fun z => by
          rw [e] at z
          simp at z
          rcases z.2 with y | y
          · exact c ⟨z.1, y⟩
          · exact c2 ⟨z.1, y⟩)]
/-- a sign and what it joins, of both -/
theorem join_2 (h : St L T key base μ0 ν0 s f g k w p q S μ ν) (hks : k ≤ s) (hd : 1 ≤ dep S k) {l n m : Nat} (hl : l < 5) (hc : s < L ∧ sgL l (T s) = true) (IB : HS L T key base μ0 ν0 l p q n m) : (∃ s' f' g' k' w' S' μ1 μ2 μ' ν1 ν2 ν', f_X3_next μ = some μ1 ∧ r_C n 4 (nI l) (nI p) (nI q) μ1 = some (1, μ2) ∧ f_X3_put (-(nI (T s))) μ2 = some μ' ∧ f_X8_nextToken ν = some ν1 ∧ r_M m (l + 1) (nI key) ν1 = some (1, ν2) ∧ f_X8_step 2 (nI (T s)) ν2 = some ν' ∧ St L T key base μ0 ν0 s' f' g' k' w' p q S' μ' ν' ∧ s < s' ∧ k' + s ≤ k + s' ∧ dep S' k' = dep S k) ∨ ∃ μ1 μ2 ν1 ν2, f_X3_next μ = some μ1 ∧ r_C n 4 (nI l) (nI p) (nI q) μ1 = some (0, μ2) ∧ f_X8_nextToken ν = some ν1 ∧ r_M m (l + 1) (nI key) ν1 = some (0, ν2) ∧ Fl base μ0 ν0 μ2 ν2 := by
  have hL := h.1.1
  obtain ⟨c1, c2⟩ := hc
  obtain ⟨g1, g2, g3⟩ := sgN c2
  obtain ⟨s1, f1, gg1, μ1, ν1, e1, e2, l1, h1⟩ := next_2 h c1 (Or.inr (Or.inr (sign_T h c1 g3).1))
  rcases IB s1 f1 gg1 k w S μ1 ν1 h1 (by omega) with ⟨s2, f2, gg2, k2, w2, S2, μ2, ν2, x1, x2, h2, l2, l3, d2⟩ | ⟨μ2, ν2, x1, x2, x3⟩
  · have s2L := h2.2.2.2.1.1
    have s2L2 := h2.2.2.2.1.2.1
    have ho : okS key (2, T s) := Or.inr (Or.inr ⟨rfl, Or.inr g1⟩)
    obtain ⟨μ3, ν3, e3, e4, h3, -⟩ := put_2 h2 (show k2 < 96 by omega) ho (fun _ => Or.inr ⟨g2, by omega⟩)
    have ee : enc key (2, T s) = -(nI (T s)) := if_neg g2
    rw [ee] at e3
    refine Or.inl ⟨s2, f2, gg2, k2 + 1, w2, _, μ1, μ2, μ3, ν1, ν2, ν3, e1, x1, e3, e2, x2, e4, h3, by omega, by omega, ?_⟩
    rw [dep_s, if_pos rfl, if_neg g2, d2]
    rfl
  · exact Or.inr ⟨μ1, μ2, ν1, ν2, e1, x1, e2, x2, x3⟩
/-- all that a level joins -/
theorem loop_2 (h : St L T key base μ0 ν0 s f g k w p q S μ ν) (hks : k ≤ s) (hs1 : 1 ≤ s) (hd : 1 ≤ dep S k) {l n m : Nat} (hl : l = 0 ∨ l = 1 ∨ l = 3 ∨ l = 4) (IB : HS L T key base μ0 ν0 l p q n m) : ∃ x y, lpF (fun v => f_X3_level_L15 (r_C n) (nI l) (nI p) (nI q) v.1 v.2) 4000 (0, μ) = some x ∧ lpF (fun v => lM l (r_M m) (nI key) v) 4000 ν = some y ∧ ((∃ μ' ν', x = Sum.inl μ' ∧ y = Sum.inl ν' ∧ Fl base μ0 ν0 μ' ν') ∨ (∃ s' f' g' k' w' S' μ' ν', x = Sum.inr (Sum.inr μ') ∧ y = Sum.inr ν' ∧ St L T key base μ0 ν0 s' f' g' k' w' p q S' μ' ν' ∧ s ≤ s' ∧ k' + s ≤ k + s' ∧ dep S' k' = dep S k)) := by
  have hL := h.1.1
  refine lpT (fun j v z => ∃ s' f' g' k' w' S' μ' ν', v = (nI j, μ') ∧ z = ν' ∧ St L T key base μ0 ν0 s' f' g' k' w' p q S' μ' ν' ∧ s + j ≤ s' ∧ k' + s ≤ k + s' ∧ dep S' k' = dep S k) (fun x y => (∃ μ' ν', x = Sum.inl μ' ∧ y = Sum.inl ν' ∧ Fl base μ0 ν0 μ' ν') ∨ (∃ s' f' g' k' w' S' μ' ν', x = Sum.inr (Sum.inr μ') ∧ y = Sum.inr ν' ∧ St L T key base μ0 ν0 s' f' g' k' w' p q S' μ' ν' ∧ s ≤ s' ∧ k' + s ≤ k + s' ∧ dep S' k' = dep S k)) (L - s) (fun j v z hj hp => ?_) (by omega) (by omega) ⟨s, f, g, k, w, S, μ, ν, rfl, rfl, h, by omega, by omega, rfl⟩
  obtain ⟨s', f', g', k', w', S', μ', ν', rfl, rfl, h', b1, b2, b3⟩ := hp
  have s1L := h'.2.2.2.1.1
  have s1L2 := h'.2.2.2.1.2.1
  have e8 := lM_g h' hl (r_M m) (nI key)
  unfold gB at e8
  have j96 : ¬ (96 : Int32) ≤ nI j := nI_ge (b := 96) (by omega) (by omega)
  by_cases c : s' < L ∧ sgL l (T s') = true
  · have l2 : ¬ nI l = 2 := i_ne (n := 2) (by omega) (by omega) (by omega)
    rw [if_pos c] at e8
    obtain ⟨t1, t2, -⟩ := h'.1.2 s' c.1
    rcases join_2 h' (by omega) (by omega) (by omega) c IB with ⟨s2, f2, g2, k2, w2, S2, μ1, μ2, μ3, ν1, ν2, ν3, x1, x2, x3, y1, y2, y3, h3, d1, d2, d3⟩ | ⟨μ1, μ2, ν1, ν2, x1, x2, y1, y2, x3⟩
    · have s2L := h3.2.2.2.1.1
      have s2L2 := h3.2.2.2.1.2.1
      refine Or.inr ⟨by omega, (nI (j + 1), μ3), ν3, ?_, ?_, s2, f2, g2, k2, w2, S2, μ3, ν3, rfl, rfl, h3, by omega, by omega, by omega⟩
      · show f_X3_level_L15 (r_C n) (nI l) (nI p) (nI q) (nI j) μ' = _
        unfold f_X3_level_L15
        rw [if_neg j96, joins_C' h' (by omega), bs, i10, if_pos c, h'.2.1.2.1, ldM_n (by omega) (by omega), bs, t2, x1, bs, x2, bs2, if_neg one_0, x3, bs, if_neg l2, nI_1]
      · rw [e8, y1, bs, y2, bs2, if_neg one_0, y3, bs]
    · refine Or.inl ⟨_, _, ?_, ?_, Or.inl ⟨μ2, ν2, rfl, rfl, x3⟩⟩
      · show f_X3_level_L15 (r_C n) (nI l) (nI p) (nI q) (nI j) μ' = _
        unfold f_X3_level_L15
        rw [if_neg j96, joins_C' h' (by omega), bs, i10, if_pos c, h'.2.1.2.1, ldM_n (by omega) (by omega), bs, t2, x1, bs, x2, bs2, if_pos rfl]
      · rw [e8, y1, bs, y2, bs2, if_pos rfl]
  · rw [if_neg c] at e8
    refine Or.inl ⟨_, _, ?_, e8, Or.inr ⟨s', f', g', k', w', S', μ', z, rfl, rfl, h', by omega, b2, b3⟩⟩
    show f_X3_level_L15 (r_C n) (nI l) (nI p) (nI q) (nI j) μ' = _
    unfold f_X3_level_L15
    rw [if_neg j96, joins_C' h' (by omega), bs, i10, if_neg c]
theorem FM_g (rec : Nat → Int32 → Mem → Option (Int32 × Mem)) (a0 : Int32) {l : Nat} (hl : l = 0 ∨ l = 1 ∨ l = 3 ∨ l = 4) (m : Nat) (ν : Mem) : r_M (m + 1) l a0 ν = bn2 (r_M m (l + 1) a0 ν) fun v1 m2 => if v1 = 0 then some (0, m2) else bn1 (lpF (fun v => lM l (r_M m) a0 v) 4000 m2) (fun x => cs2 x (fun y => some (0, y)) (fun x0 => some (1, x0))) := by
  rcases hl with rfl | rfl | rfl | rfl <;> rfl
theorem T2_g (a0 : Int32) (m : Nat) (ν : Mem) : r_M (m + 1) 2 a0 ν = bn2 (r_M m (2 + 1) a0 ν) fun v1 m2 => if v1 = 0 then some (0, m2) else bn1 (f_X8_isSign 60 m2) fun v3 => if v3 = 0 then (bn1 (f_X8_isSign 61 m2) fun v8 => if v8 = 0 then (bn1 (f_X8_isSign 62 m2) fun v9 => if v9 = 0 then some (1, m2) else f_X8_test_J37 (r_M m) a0 m2) else f_X8_test_J37 (r_M m) a0 m2) else f_X8_test_J37 (r_M m) a0 m2 := rfl
/-- a level of both -/
theorem level_2 (h : St L T key base μ0 ν0 s f g k w p q S μ ν) (hks : k ≤ s) {l n m : Nat} (hl : l < 5) (IB : HS L T key base μ0 ν0 l p q n m) : Res L T key base μ0 ν0 s k p q S (r_C (n + 1) 0 (nI l) (nI p) (nI q) μ) (r_M (m + 1) l (nI key) ν) := by
  have hL := h.1.1
  have e7 : r_C (n + 1) 0 (nI l) (nI p) (nI q) μ = bn2 (r_C n 4 (nI l) (nI p) (nI q) μ) fun v1 m2 => if v1 = 0 then some (0, m2) else bn1 (lpF (fun v => f_X3_level_L15 (r_C n) (nI l) (nI p) (nI q) v.1 v.2) 4000 (0, m2)) (fun x => cs2 x (fun y => f_X3_level_K15_55 y) (fun x0 => cs2 x0 (fun y => f_X3_level_K15_69 y) (fun x01 => f_X3_level_K15_78 x01))) := rfl
  rw [e7]
  rcases IB s f g k w S μ ν h hks with ⟨s1, f1, g1, k1, w1, S1, μ1, ν1, x1, x2, h1, l1, l2, d1⟩ | ⟨μ1, ν1, x1, x2, x3⟩
  · have s1L := h1.2.2.2.1.1
    have s1L2 := h1.2.2.2.1.2.1
    rw [x1, bs2, if_neg one_0]
    by_cases c2 : l = 2
    · subst c2
      have sg : ∀ c, chs c = 1 → c < 256 → f_X8_isSign (nI c) ν1 = some (if s1 < L ∧ T s1 = c then 1 else 0) := fun c h1' h2' => sign_M h1 h1' h2'
      have em : (bn1 (f_X8_isSign 60 ν1) fun v3 => if v3 = 0 then (bn1 (f_X8_isSign 61 ν1) fun v8 => if v8 = 0 then (bn1 (f_X8_isSign 62 ν1) fun v9 => if v9 = 0 then some (1, ν1) else f_X8_test_J37 (r_M m) (nI key) ν1) else f_X8_test_J37 (r_M m) (nI key) ν1) else f_X8_test_J37 (r_M m) (nI key) ν1) = if s1 < L ∧ sgL 2 (T s1) = true then f_X8_test_J37 (r_M m) (nI key) ν1 else some (1, ν1) := by
        have e : sgL 2 (T s1) = (decide (T s1 = 60) || decide (T s1 = 61) || decide (T s1 = 62)) := rfl
        rw [show f_X8_isSign 60 ν1 = _ from sg 60 (by decide) (by decide), bs, i10, show f_X8_isSign 61 ν1 = _ from sg 61 (by decide) (by decide), bs, i10, show f_X8_isSign 62 ν1 = _ from sg 62 (by decide) (by decide), bs, i10]
        by_cases a0 : s1 < L ∧ T s1 = 60
        · rw [if_pos a0, if_pos ⟨a0.1, by rw [e, a0.2]; rfl⟩]
        · by_cases a1 : s1 < L ∧ T s1 = 61
          · rw [if_neg a0, if_pos a1, if_pos ⟨a1.1, by rw [e, a1.2]; rfl⟩]
          · by_cases a2 : s1 < L ∧ T s1 = 62
            · rw [if_neg a0, if_neg a1, if_pos a2, if_pos ⟨a2.1, by rw [e, a2.2]; rfl⟩]
            · rw [if_neg a0, if_neg a1, if_neg a2, if_neg (fun z => by
                rw [e] at z
                simp at z
                rcases z.2 with (y | y) | y
                · exact a0 ⟨z.1, y⟩
                · exact a1 ⟨z.1, y⟩
                · exact a2 ⟨z.1, y⟩)]
      rw [T2_g, x2, bs2, if_neg one_0, em]
      by_cases c : s1 < L ∧ sgL 2 (T s1) = true
      · obtain ⟨t1, t2, -⟩ := h1.1.2 s1 c.1
        rw [if_pos c]
        unfold f_X8_test_J37
        rw [(sign_T h1 c.1 (sgN c.2).2.2).2.1]
        rcases join_2 h1 (by omega) (by omega) (by omega) c IB with ⟨s2, f2, g2, k2, w2, S2, μ2, μ3, μ4, ν2, ν3, ν4, z1, z2, z3, y1, y2, y3, h3, b1, b2, b3⟩ | ⟨μ2, μ3, ν2, ν3, z1, z2, y1, y2, z3⟩
        · have ec : lpF (fun v => f_X3_level_L15 (r_C n) (nI 2) (nI p) (nI q) v.1 v.2) 4000 (0, μ1) = some (.inr (.inl μ4)) := by
            refine lp0 (fun _ => (0, μ1)) (Sum.inr (Sum.inl μ4)) 0 rfl (by omega) (fun j hj => absurd hj (Nat.not_lt_zero j)) ?_
            show f_X3_level_L15 (r_C n) (nI 2) (nI p) (nI q) 0 μ1 = _
            unfold f_X3_level_L15
            rw [if_neg (by decide), joins_C' h1 (by omega), bs, i10, if_pos c, h1.2.1.2.1, ldM_n (by omega) (by omega), bs, t2, z1, bs, z2, bs2, if_neg one_0, z3, bs, if_pos (show nI 2 = 2 from rfl)]
          rw [ec, bs, y1, bs, y2, bs2, if_neg one_0, y3, bs]
          exact Or.inl ⟨s2, f2, g2, k2, w2, S2, μ4, ν4, rfl, rfl, h3, by omega, by omega, by omega⟩
        · have ec : lpF (fun v => f_X3_level_L15 (r_C n) (nI 2) (nI p) (nI q) v.1 v.2) 4000 (0, μ1) = some (.inl μ3) := by
            refine lp0 (fun _ => (0, μ1)) (Sum.inl μ3) 0 rfl (by omega) (fun j hj => absurd hj (Nat.not_lt_zero j)) ?_
            show f_X3_level_L15 (r_C n) (nI 2) (nI p) (nI q) 0 μ1 = _
            unfold f_X3_level_L15
            rw [if_neg (by decide), joins_C' h1 (by omega), bs, i10, if_pos c, h1.2.1.2.1, ldM_n (by omega) (by omega), bs, t2, z1, bs, z2, bs2, if_pos rfl]
          rw [ec, bs, y1, bs, y2, bs2, if_pos rfl]
          exact Or.inr ⟨μ3, ν3, rfl, rfl, z3⟩
      · have ec : lpF (fun v => f_X3_level_L15 (r_C n) (nI 2) (nI p) (nI q) v.1 v.2) 4000 (0, μ1) = some (.inr (.inr μ1)) := by
          refine lp0 (fun _ => (0, μ1)) (Sum.inr (Sum.inr μ1)) 0 rfl (by omega) (fun j hj => absurd hj (Nat.not_lt_zero j)) ?_
          show f_X3_level_L15 (r_C n) (nI 2) (nI p) (nI q) 0 μ1 = _
          unfold f_X3_level_L15
          rw [if_neg (by decide), joins_C' h1 (by omega), bs, i10, if_neg c]
        rw [ec, bs, if_neg c]
        exact Or.inl ⟨s1, f1, g1, k1, w1, S1, μ1, ν1, rfl, rfl, h1, l1, l2, d1⟩
    · have hl4 : l = 0 ∨ l = 1 ∨ l = 3 ∨ l = 4 := by omega
      obtain ⟨x, y, e1, e2, hq⟩ := loop_2 h1 (by omega) (by omega) (by omega) hl4 IB
      rw [FM_g (r_M m) (nI key) hl4, x2, bs2, if_neg one_0, e1, e2, bs, bs]
      rcases hq with ⟨μ2, ν2, rfl, rfl, z3⟩ | ⟨s2, f2, g2, k2, w2, S2, μ2, ν2, rfl, rfl, h3, b1, b2, b3⟩
      · exact Or.inr ⟨μ2, ν2, rfl, rfl, z3⟩
      · exact Or.inl ⟨s2, f2, g2, k2, w2, S2, μ2, ν2, rfl, rfl, h3, by omega, by omega, by omega⟩
  · rw [x1, bs2, if_pos rfl]
    by_cases c2 : l = 2
    · subst c2
      rw [T2_g, x2, bs2, if_pos rfl]
      exact Or.inr ⟨μ1, ν1, rfl, rfl, x3⟩
    · rw [FM_g (r_M m) (nI key) (by omega), x2, bs2, if_pos rfl]
      exact Or.inr ⟨μ1, ν1, rfl, rfl, x3⟩
/-- all levels and pieces of both -/
theorem read_all (L : Nat) (T : Nat → Nat) (key base : Nat) (μ0 ν0 : Mem) : ∀ D : Nat, (∀ p q n m, p ≤ 8 → q ≤ 8 → 12 * (8 - p) + 2 * (8 - q) + 2 ≤ D → 12 * (8 - p) + 2 * (8 - q) + 2 ≤ n → 12 * (8 - p) + 2 * (8 - q) + 2 ≤ m → HA L T key base μ0 ν0 p q n m) ∧ (∀ l p q n m, l ≤ 4 → p ≤ 8 → q ≤ 8 → 12 * (8 - p) + 2 * (8 - q) + 2 + (10 - 2 * l) ≤ D → 12 * (8 - p) + 2 * (8 - q) + 2 + (10 - 2 * l) ≤ n → 12 * (8 - p) + 2 * (8 - q) + 2 + (10 - 2 * l) ≤ m → HB L T key base μ0 ν0 l p q n m) := by
  intro D
  induction D with
  | zero => exact ⟨fun p q n m _ _ h => by omega, fun l p q n m _ _ _ h => by omega⟩
  | succ D ih =>
    obtain ⟨iA, iB⟩ := ih
    refine ⟨fun p q n m hp hq h1 h2 h3 => ?_, fun l p q n m hl hp hq h1 h2 h3 => ?_⟩
    · intro s f g k w S μ ν h hks
      obtain ⟨n', rfl⟩ : ∃ n', n = n' + 2 := ⟨n - 2, by omega⟩
      obtain ⟨m', rfl⟩ : ∃ m', m = m' + 1 := ⟨m - 1, by omega⟩
      exact piece_2 h hks hp hq (fun c => iA p (q + 1) n' m' hp (by omega) (by omega) (by omega) (by omega)) (fun c => iB 0 (p + 1) q n' m' (by omega) (by omega) hq (by omega) (by omega) (by omega))
    · intro s f g k w S μ ν h hks
      obtain ⟨n', rfl⟩ : ∃ n', n = n' + 2 := ⟨n - 2, by omega⟩
      obtain ⟨m', rfl⟩ : ∃ m', m = m' + 1 := ⟨m - 1, by omega⟩
      refine level_2 h hks (by omega) ?_
      intro s f g k w S μ ν h hks
      show Res L T key base μ0 ν0 s k p q S (F_X3_side (r_C n') (nI l) (nI p) (nI q) μ) _
      unfold F_X3_side
      by_cases c : l = 4
      · subst c
        rw [if_pos (show (4 : Int32) ≤ nI 4 from nI_le (a := 4) (by omega) (by omega))]
        have A := iA p q n' m' hp hq (by omega) (by omega) (by omega) s f g k w S μ ν h hks
        exact A.zm
      · rw [if_neg (show ¬ (4 : Int32) ≤ nI l from nI_ge (b := 4) (by omega) (by omega)), nI_1]
        have A := iB (l + 1) p q n' m' (by omega) hp hq (by omega) (by omega) (by omega) s f g k w S μ ν h hks
        exact A.zm
end PC2
