/-! THE READER: pieces -/
def isnm (key c : Nat) : Bool := if key = 0 then (decide (c = 111) || decide (c = 102) || decide (c = 109)) else if key = 1 then (decide (c = 99) || decide (c = 121)) else (decide (c = 111) || decide (c = 112))
set_option maxRecDepth 100000 in
theorem nmC : ∀ key, key < 3 → ∀ c, c < 256 → sIx (3 + key) (((nI c).toUInt32 % 65536).toInt32) = if isnm key c = true then nI (nmIx key c) else -1 := by decide +kernel
set_option maxRecDepth 100000 in
theorem nmM : ∀ key, key < 3 → ∀ c, c < 256 → f_X8_isName (nI key) (nI c) = some (if isnm key c = true then 1 else 0) := by decide +kernel
theorem nmO (key : Nat) (hk : key < 3) (c : Nat) (_ : c < 256) (h : isnm key c = true) : (key = 0 ∧ (c = 111 ∨ c = 102 ∨ c = 109)) ∨ (key = 1 ∧ (c = 99 ∨ c = 121)) ∨ (key = 2 ∧ (c = 111 ∨ c = 112)) := by
  unfold isnm at h
  rcases (by omega : key = 0 ∨ key = 1 ∨ key = 2) with rfl | rfl | rfl
  · rw [if_pos rfl] at h
    simp at h
    exact Or.inl ⟨rfl, by omega⟩
  · rw [if_neg (by decide), if_pos rfl] at h
    simp at h
    exact Or.inr (Or.inl ⟨rfl, h⟩)
  · rw [if_neg (by decide), if_neg (by decide)] at h
    simp at h
    exact Or.inr (Or.inr ⟨rfl, h⟩)
theorem nmE {key c : Nat} (hk : key ≤ 2) : ¬ nI (nmIx key c) < 0 ∧ (-1) - nI (nmIx key c) = enc key (1, c) := by
  have l := nmIx_le key c
  have e : enc key (1, c) = -(nI (1 + nmIx key c)) := rfl
  rw [e]
  rcases (by omega : nmIx key c = 0 ∨ nmIx key c = 1 ∨ nmIx key c = 2) with h | h | h <;> rw [h] <;> exact ⟨by decide, by decide⟩
def HA (L : Nat) (T : Nat → Nat) (key base : Nat) (μ0 ν0 : Mem) (p q n m : Nat) : Prop := ∀ s f g k w S μ ν, St L T key base μ0 ν0 s f g k w p q S μ ν → k ≤ s → Res L T key base μ0 ν0 s k p q S (r_C n 1 (nI p) (nI q) 0 μ) (r_M m 5 (nI key) ν)
def HB (L : Nat) (T : Nat → Nat) (key base : Nat) (μ0 ν0 : Mem) (l p q n m : Nat) : Prop := ∀ s f g k w S μ ν, St L T key base μ0 ν0 s f g k w p q S μ ν → k ≤ s → Res L T key base μ0 ν0 s k p q S (r_C n 0 (nI l) (nI p) (nI q) μ) (r_M m l (nI key) ν)
section PB
variable {L : Nat} {T : Nat → Nat} {key base : Nat} {μ0 ν0 μ ν : Mem} {s f g k w p q : Nat} {S : Nat → Nat × Nat}
theorem Res.zm {x y : Option (Int32 × Mem)} (h : Res L T key base μ0 ν0 s k p q S x y) : Res L T key base μ0 ν0 s k p q S (bn2 x fun v m => bn1 (zM v) fun v' => some (v', m)) y := by
  rcases h with ⟨s', f', g', k', w', S', μ', ν', rfl, e2, h⟩ | ⟨μ', ν', rfl, e2, h⟩
  · exact Or.inl ⟨s', f', g', k', w', S', μ', ν', rfl, e2, h⟩
  · exact Or.inr ⟨μ', ν', rfl, e2, h⟩
theorem Res.c01 {x y : Option (Int32 × Mem)} (h : Res L T key base μ0 ν0 s k p q S x y) : Res L T key base μ0 ν0 s k p q S (bn2 x fun v m => if v = 0 then some (0, m) else some (1, m)) y := by
  rcases h with ⟨s', f', g', k', w', S', μ', ν', rfl, e2, h⟩ | ⟨μ', ν', rfl, e2, h⟩
  · exact Or.inl ⟨s', f', g', k', w', S', μ', ν', rfl, e2, h⟩
  · exact Or.inr ⟨μ', ν', rfl, e2, h⟩
/-- a number or a name, laid -/
theorem leaf_2 (h : St L T key base μ0 ν0 s f g k w p q S μ ν) (hks : k ≤ s) (h1 : s < L) (h2 : ν 0 17 = 1 ∨ ν 0 17 = 2 ∨ ν 0 17 = 3) {c : Nat × Nat} (ho : okS key c) (hc : c.1 ≠ 2) : Res L T key base μ0 ν0 s k p q S (bn1 (f_X3_put (enc key c) μ) fun m2 => nm (mset m2 38 7 ((m2 38 7) + 1)) fun m3 => bn1 (f_X3_next m3) fun m4 => some (1, m4)) (bn1 (f_X8_step (nI c.1) (nI c.2) ν) fun m2 => nm (mset m2 0 24 ((m2 0 24) + 1)) fun m3 => bn1 (f_X8_nextToken m3) fun m4 => some (1, m4)) := by
  have hL := h.1.1
  obtain ⟨μ1, ν1, e1, e2, g1, gr⟩ := put_2 h (by omega) ho (fun z => absurd z hc)
  have g2 := said_2 g1
  have h17 : (mset ν1 0 24 (ν1 0 24 + 1)) 0 17 = ν 0 17 := by rw [mset_sn (by omega), gr 17 (by omega)]
  obtain ⟨s', f', g', μ3, ν3, e3, e4, lt, g3⟩ := next_2 g2 h1 (by rw [h17]; exact h2)
  rw [e1, e2, bs, bs, nms, nms, e3, e4, bs, bs]
  refine Or.inl ⟨s', f', g', k + 1, w + 1, _, μ3, ν3, rfl, rfl, g3, lt, by omega, ?_⟩
  rw [dep_s, if_neg hc]
theorem number_C (h : St L T key base μ0 ν0 s f g k w p q S μ ν) (hf : s ≤ f) (hd : ∀ j, s ≤ j → j < f → chs (T j) = 3) : f_X3_number μ = if f - s ≤ 4 then (bn1 (f_X3_put (enc key (0, numv T s (f - s))) μ) fun m2 => nm (mset m2 38 7 ((m2 38 7) + 1)) fun m3 => bn1 (f_X3_next m3) fun m4 => some (1, m4)) else some (0, μ) := by
  obtain ⟨hT, ⟨c2, c3, c4, c5, c6, c7, c8⟩, -, hK, -⟩ := h
  have hL := hT.1
  have fL := hK.2.1
  unfold f_X3_number
  rw [c4, c3, pk_sub hf]
  by_cases c : f - s ≤ 4
  · rw [if_pos c, if_pos (show nI (f - s) ≤ 4 from nI_le (b := 4) c (by omega))]
    refine (bl (fun j => (nI (numv T s j), nI (s + j))) (nI (numv T s (f - s))) (f - s) rfl (by omega) (fun j hj => ?_) ?_).trans rfl
    · show f_X3_number_L22 μ (nI (numv T s j)) (nI (s + j)) = _
      unfold f_X3_number_L22
      rw [c4, if_neg (nI_ge (by omega) (by omega)), ldM_n (by omega) (by omega), bs, (hT.2 (s + j) (by omega)).2.1, numS (hd (s + j) (by omega) (by omega)), nI_1]
      rfl
    · show f_X3_number_L22 μ (nI (numv T s (f - s))) (nI (s + (f - s))) = _
      unfold f_X3_number_L22
      rw [c4, if_pos (nI_le (by omega) (by omega))]
  · rw [if_neg c, if_neg (show ¬ nI (f - s) ≤ 4 from nI_ge (a := 4) (by omega) (by omega))]
theorem name_C (h : St L T key base μ0 ν0 s f g k w p q S μ ν) (h1 : s < L) (hf : s ≤ f) : f_X3_name μ = if f - s = 1 ∧ isnm key (T s) = true then (bn1 (f_X3_put (enc key (1, T s)) μ) fun m2 => nm (mset m2 38 7 ((m2 38 7) + 1)) fun m3 => bn1 (f_X3_next m3) fun m4 => some (1, m4)) else some (0, μ) := by
  obtain ⟨hT, ⟨c2, c3, c4, c5, c6, c7, c8⟩, -, hK, -, -, -, -, hk2⟩ := h
  have hL := hT.1
  have fL := hK.2.1
  obtain ⟨t1, t2, -⟩ := hT.2 s h1
  obtain ⟨n1, n2⟩ := nmE (key := key) (c := T s) hk2
  have X : ∀ i, i = 3 + key → (if nI (f - s) = 1 then bn1 (ldM (μ 39) 96 (nI s)) fun v11 => nm (sIx i ((v11.toUInt32 % 65536).toInt32)) fun e12 => if 0 ≤ e12 then bn1 (f_X3_put ((-1) - e12) μ) fun m13 => nm (mset m13 38 7 ((m13 38 7) + 1)) fun m14 => bn1 (f_X3_next m14) fun m15 => some (1, m15) else some (0, μ) else some ((0 : Int32), μ)) = if f - s = 1 ∧ isnm key (T s) = true then (bn1 (f_X3_put (enc key (1, T s)) μ) fun m2 => nm (mset m2 38 7 ((m2 38 7) + 1)) fun m3 => bn1 (f_X3_next m3) fun m4 => some (1, m4)) else some (0, μ) := fun i hi => by
    by_cases c : f - s = 1
    · rw [if_pos (show nI (f - s) = 1 by rw [c]; rfl), ldM_n (by omega) (by omega), bs, t2, nms, hi, nmC key (by omega) (T s) t1]
      by_cases c1 : isnm key (T s) = true
      · rw [if_pos c1, if_pos (Int32.not_lt.mp n1), n2, if_pos ⟨c, c1⟩]
      · rw [if_neg c1, if_neg (show ¬ (0 : Int32) ≤ -1 by decide), if_neg (fun z => c1 z.2)]
    · rw [if_neg (show ¬ nI (f - s) = 1 from i_ne (n := 1) (by omega) (by omega) c), if_neg (fun z => c z.1)]
  unfold f_X3_name
  rw [c6, c4, c3, pk_sub hf]
  rcases (by omega : key = 0 ∨ key = 1 ∨ key = 2) with e | e | e
  · rw [if_pos (show nI key = 0 by rw [e]; rfl)]
    exact X 3 (by omega)
  · rw [if_neg (show ¬ nI key = 0 by rw [e]; decide), if_pos (show nI key = 1 by rw [e]; rfl)]
    exact X 4 (by omega)
  · rw [if_neg (show ¬ nI key = 0 by rw [e]; decide), if_neg (show ¬ nI key = 1 by rw [e]; decide)]
    exact X 5 (by omega)
theorem J84_no (h : St L T key base μ0 ν0 s f g k w p q S μ ν) (n1 : ¬ (s < L ∧ T s = 33)) (n2 : ¬ (s < L ∧ T s = 40)) (rec : Nat → Int32 → Mem → Option (Int32 × Mem)) (a0 : Int32) : f_X8_part0_J84 rec a0 ν = some (0, ν) := by
  unfold f_X8_part0_J84 f_X8_part0_J145
  rw [show f_X8_isSign 33 ν = _ from sign_M (c := 33) h (by decide) (by decide), bs, i10, if_neg n1, show f_X8_isSign 40 ν = _ from sign_M (c := 40) h (by decide) (by decide), bs, i10, if_neg n2]
/-- a piece of both -/
theorem piece_2 (h : St L T key base μ0 ν0 s f g k w p q S μ ν) (hks : k ≤ s) (hp : p ≤ 8) (hq : q ≤ 8) {n m : Nat} (IA : q < 8 → HA L T key base μ0 ν0 p (q + 1) n m) (IB : p < 8 → HB L T key base μ0 ν0 0 (p + 1) q n m) : Res L T key base μ0 ν0 s k p q S (r_C (n + 2) 1 (nI p) (nI q) 0 μ) (r_M (m + 1) 5 (nI key) ν) := by
  have h0 := h
  obtain ⟨hT, ⟨c2, c3, c4, c5, c6, c7, c8⟩, ⟨m14, m15, m16, m20, m21, m22, m23, m24⟩, ⟨sf, fL, hK⟩, hS, hV, hF, hb, hk⟩ := h
  have hL := hT.1
  show Res L T key base μ0 ν0 s k p q S (F_X3_piece (r_C (n + 1)) (nI p) (nI q) μ) (F_X8_part0 (r_M m) (nI key) ν)
  unfold F_X3_piece F_X8_part0
  rw [c2, c3, c5]
  rcases hK with ⟨z1, z2, z3, z4⟩ | ⟨z1, z2, z3, z4, z5, z6⟩ | ⟨z1, z2, z3, z4, z5, z6⟩ | ⟨z1, z2, z3, z4, z5⟩
  · rw [if_pos (nI_le (by omega) (by omega)), z4, if_neg (by decide), if_neg (by decide), J84_no h0 (by omega) (by omega)]
    exact Res.no h0
  · obtain ⟨t1, t2, -⟩ := hT.2 s z1
    rw [if_neg (nI_ge z1 (by omega)), z4, if_pos (show nI 0 = 0 from rfl), ldM_n (by omega) (by omega), bs, t2, z5, if_neg (show ¬ (3 : Int32) = 2 by decide), if_neg (show ¬ (3 : Int32) = 1 by decide), bs]
    by_cases cn : T s = 33
    · rw [cn, if_pos (show nI 33 = 33 from rfl)]
      unfold f_X8_part0_J84
      rw [show f_X8_isSign 33 ν = _ from sign_M (c := 33) h0 (by decide) (by decide), bs, i10, if_pos (show s < L ∧ T s = 33 from ⟨z1, cn⟩), m21]
      by_cases cq : 8 ≤ q
      · rw [if_pos (show (8 : Int32) ≤ nI q from nI_le (a := 8) cq (by omega)), if_pos (show (8 : Int32) ≤ nI q from nI_le (a := 8) cq (by omega))]
        unfold f_X8_part0_J145
        rw [show f_X8_isSign 40 ν = _ from sign_M (c := 40) h0 (by decide) (by decide), bs, i10, if_neg (fun z => by rw [cn] at z; exact absurd z.2 (by decide))]
        exact Res.no h0
      · rw [if_neg (show ¬ (8 : Int32) ≤ nI q from nI_ge (b := 8) (by omega) (by omega)), if_neg (show ¬ (8 : Int32) ≤ nI q from nI_ge (b := 8) (by omega) (by omega)), nI_1, nms]
        refine Res.c01 ?_
        show Res L T key base μ0 ν0 s k p q S (F_X3_negated (r_C n) (nI p) (nI (q + 1)) μ) _
        unfold F_X3_negated
        have g1 := (deep_2 h0 p (q + 1)).2
        obtain ⟨s1, f1, gg1, μ1, ν1, e1, e2, l1, g2⟩ := next_2 g1 z1 (Or.inr (Or.inr (sign_T g1 z1 z2).1))
        rw [e1, e2, bs, bs]
        rcases IA (by omega) s1 f1 gg1 k w S μ1 ν1 g2 (by omega) with ⟨s2, f2, gg2, k2, w2, S2, μ2, ν2, x1, x2, g3, l2, l3, d2⟩ | ⟨μ2, ν2, x1, x2, x3⟩
        · rw [x1, x2, bs2, bs2, if_neg one_0, if_neg one_0, nms]
          have s2L := g3.2.2.2.1.1
          have s2L2 := g3.2.2.2.1.2.1
          have g4 := (deep_2 g3 p q).2
          rw [g3.2.2.1.2.2.2.2.1, nI_pred]
          obtain ⟨μ3, ν3, e3, e4, g5, -⟩ := put_2 g4 (show k2 < 96 by omega) (c := (2, 33)) (Or.inr (Or.inr ⟨rfl, Or.inl rfl⟩)) (fun _ => Or.inl ⟨rfl, by omega⟩)
          rw [show (-4 : Int32) = enc key (2, 33) from rfl, e3, show f_X8_step 2 33 (mset ν2 0 21 (nI q)) = _ from e4, bs, bs]
          refine Or.inl ⟨s2, f2, gg2, k2 + 1, w2, _, μ3, ν3, rfl, rfl, g5, by omega, by omega, ?_⟩
          rw [dep_s, if_pos rfl, if_pos rfl, d2]
        · rw [x1, x2, bs2, bs2, if_pos rfl, if_pos rfl]
          exact Or.inr ⟨μ2, ν2, rfl, rfl, x3⟩
    · rw [if_neg (show ¬ nI (T s) = 33 from i_ne (n := 33) (by omega) (by omega) cn)]
      by_cases co : T s = 40
      · rw [co, if_pos (show nI 40 = 40 from rfl)]
        unfold f_X8_part0_J84 f_X8_part0_J145
        rw [show f_X8_isSign 33 ν = _ from sign_M (c := 33) h0 (by decide) (by decide), bs, i10, if_neg (show ¬ (s < L ∧ T s = 33) from fun z => cn z.2), show f_X8_isSign 40 ν = _ from sign_M (c := 40) h0 (by decide) (by decide), bs, i10, if_pos (show s < L ∧ T s = 40 from ⟨z1, co⟩), m20]
        by_cases cp : 8 ≤ p
        · rw [if_pos (show (8 : Int32) ≤ nI p from nI_le (a := 8) cp (by omega)), if_pos (show nI p = 8 by rw [show p = 8 by omega]; rfl)]
          exact Res.no h0
        · rw [if_neg (show ¬ (8 : Int32) ≤ nI p from nI_ge (b := 8) (by omega) (by omega)), if_neg (show ¬ nI p = 8 from i_ne (n := 8) (by omega) (by omega) (by omega)), nI_1, nms]
          refine Res.c01 ?_
          show Res L T key base μ0 ν0 s k p q S (F_X3_enclosed (r_C n) (nI (p + 1)) (nI q) μ) _
          unfold F_X3_enclosed
          have g1 := (deep_2 h0 (p + 1) q).1
          obtain ⟨s1, f1, gg1, μ1, ν1, e1, e2, l1, g2⟩ := next_2 g1 z1 (Or.inr (Or.inr (sign_T g1 z1 z2).1))
          rw [e1, e2, bs, bs]
          rcases IB (by omega) s1 f1 gg1 k w S μ1 ν1 g2 (by omega) with ⟨s2, f2, gg2, k2, w2, S2, μ2, ν2, x1, x2, g3, l2, l3, d2⟩ | ⟨μ2, ν2, x1, x2, x3⟩
          · rw [show r_C n 0 0 (nI (p + 1)) (nI q) μ1 = _ from x1, x2, bs2, bs2, if_neg one_0, if_neg one_0]
            have s2L := g3.2.2.2.1.1
            have s2L2 := g3.2.2.2.1.2.1
            rw [show f_X8_isSign 41 ν2 = _ from sign_M (c := 41) g3 (by decide) (by decide), bs, i10, g3.2.1.1, g3.2.1.2.1]
            by_cases c3 : s2 < L
            · obtain ⟨u1, u2, -⟩ := g3.1.2 s2 c3
              rw [if_neg (nI_ge c3 (by omega)), ldM_n (by omega) (by omega), bs, u2]
              by_cases c4 : T s2 = 41
              · rw [if_pos (show nI (T s2) = 41 by rw [c4]; rfl), if_pos ⟨c3, c4⟩, nms, g3.2.2.1.2.2.2.1, nI_pred]
                have g4 := (deep_2 g3 p q).1
                obtain ⟨s3, f3, gg3, μ3, ν3, e3, e4, l4, g5⟩ := next_2 g4 c3 (Or.inr (Or.inr (sign_T g4 c3 (by rw [c4]; decide)).1))
                rw [e3, e4, bs, bs]
                exact Or.inl ⟨s3, f3, gg3, k2, w2, S2, μ3, ν3, rfl, rfl, g5, by omega, by omega, d2⟩
              · rw [if_neg (show ¬ nI (T s2) = 41 from i_ne (n := 41) (by omega) (by omega) c4), if_neg (fun z => c4 z.2)]
                exact Or.inr ⟨μ2, ν2, rfl, rfl, g3.fl⟩
            · rw [if_pos (nI_le (by omega) (by omega)), if_neg (fun z => c3 z.1)]
              exact Or.inr ⟨μ2, ν2, rfl, rfl, g3.fl⟩
          · rw [show r_C n 0 0 (nI (p + 1)) (nI q) μ1 = _ from x1, x2, bs2, bs2, if_pos rfl, if_pos rfl]
            exact Or.inr ⟨μ2, ν2, rfl, rfl, x3⟩
      · rw [if_neg (show ¬ nI (T s) = 40 from i_ne (n := 40) (by omega) (by omega) co), sortAt_C hT c2 s (by omega), bs, if_pos z1, z2, if_neg (show ¬ nI 1 = 3 by decide), J84_no h0 (fun z => cn z.2) (fun z => co z.2), name_C h0 z1 sf]
        have nn : ¬ (f - s = 1 ∧ isnm key (T s) = true) := fun z => by
          rcases nmO key (by omega) (T s) t1 z.2 with ⟨-, e⟩ | ⟨-, e⟩ | ⟨-, e⟩
          · rcases e with e | e | e <;> rw [e] at z2 <;> exact absurd z2 (by decide)
          · rcases e with e | e <;> rw [e] at z2 <;> exact absurd z2 (by decide)
          · rcases e with e | e <;> rw [e] at z2 <;> exact absurd z2 (by decide)
        rw [if_neg nn]
        exact Res.no h0
  · obtain ⟨t1, t2, -⟩ := hT.2 s z1
    have lt := chs_2 z2
    have J := J84_no h0 (fun z => by have := z.2; omega) (fun z => by have := z.2; omega) (r_M m) (nI key)
    rw [if_neg (nI_ge z1 (by omega))]
    rcases z5 with ⟨y1, y2⟩ | ⟨y1, y2⟩
    · rw [y1, y2, if_pos (show nI 0 = 0 from rfl), if_neg (show ¬ (1 : Int32) = 2 by decide), if_pos rfl, ldM_n (by omega) (by omega), bs, bs, t2, if_neg (show ¬ nI (T s) = 33 from i_ne (n := 33) (by omega) (by omega) (by omega)), if_neg (show ¬ nI (T s) = 40 from i_ne (n := 40) (by omega) (by omega) (by omega)), sortAt_C hT c2 s (by omega), bs, if_pos z1, z2, if_neg (show ¬ nI 2 = 3 by decide), z6, J, name_C h0 z1 sf]
      by_cases c1 : f - s = 1
      · rw [if_pos c1, if_neg (show ¬ nI (T s) = 0 from nI_ne0 (by omega) (by omega)), nmM key (by omega) (T s) t1, bs, i10]
        by_cases c3 : isnm key (T s) = true
        · rw [if_pos c3, if_pos ⟨c1, c3⟩]
          exact Res.zm (leaf_2 h0 hks z1 (Or.inl y2) (c := (1, T s)) (Or.inr (Or.inl ⟨rfl, nmO key (by omega) (T s) t1 c3⟩)) (show (1 : Nat) ≠ 2 by decide))
        · rw [if_neg c3, if_neg (fun z => c3 z.2)]
          exact Res.no h0
      · rw [if_neg c1, if_pos rfl, if_neg (fun z => c1 z.1)]
        exact Res.no h0
    · rw [y1, y2, if_neg (show ¬ nI 1 = 0 by decide), if_neg (show ¬ (4 : Int32) = 2 by decide), if_neg (show ¬ (4 : Int32) = 1 by decide), J]
      exact Res.no h0
  · obtain ⟨t1, t2, -⟩ := hT.2 s z1
    have lt := chs_3 z2
    have J := J84_no h0 (fun z => by have := z.2; omega) (fun z => by have := z.2; omega) (r_M m) (nI key)
    rw [if_neg (nI_ge z1 (by omega))]
    rcases z5 with ⟨y1, y2⟩ | ⟨y1, y2⟩
    · rw [y1, if_pos (show nI 0 = 0 from rfl), ldM_n (by omega) (by omega), bs, bs, t2, if_neg (show ¬ nI (T s) = 33 from i_ne (n := 33) (by omega) (by omega) (by omega)), if_neg (show ¬ nI (T s) = 40 from i_ne (n := 40) (by omega) (by omega) (by omega)), sortAt_C hT c2 s (by omega), bs, if_pos z1, z2, if_pos (show nI 3 = 3 from rfl), number_C h0 sf z4, J]
      rcases y2 with ⟨x1, x2, x3⟩ | ⟨x1, x2⟩
      · rw [x2, if_pos rfl, if_pos x1, x3]
        have b4 : numv T s (f - s) ≤ 9999 := by
          have := numv_lt (T := T) (s := s) (f - s) (fun j hj => z4 (s + j) (by omega) (by omega))
          have : 10 ^ (f - s) ≤ 10 ^ 4 := Nat.pow_le_pow_right (by omega) x1
          omega
        exact Res.zm (leaf_2 h0 hks z1 (Or.inr (Or.inl x2)) (c := (0, numv T s (f - s))) (Or.inl ⟨rfl, b4⟩) (show (0 : Nat) ≠ 2 by decide))
      · rw [x2, if_neg (show ¬ (4 : Int32) = 2 by decide), if_neg (show ¬ (4 : Int32) = 1 by decide), if_neg (by omega)]
        exact Res.no h0
    · rw [y1, y2, if_neg (show ¬ nI 1 = 0 by decide), if_neg (show ¬ (4 : Int32) = 2 by decide), if_neg (show ¬ (4 : Int32) = 1 by decide), J]
      exact Res.no h0
end PB
