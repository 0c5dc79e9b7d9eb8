/-! A TOWN, as numbers: how many; kind, price, purse of each; friends of each and minds of all as bits; scalars by the class's places -/
abbrev AT : Type := Nat × (Nat → Int32) × (Nat → Int32) × (Nat → Int32) × (Nat → Nat) × Nat × (Nat → Int32)
def tN (a : AT) : Nat := a.1
def tK (a : AT) : Nat → Int32 := a.2.1
def tP (a : AT) : Nat → Int32 := a.2.2.1
def tU (a : AT) : Nat → Int32 := a.2.2.2.1
def tF (a : AT) : Nat → Nat := a.2.2.2.2.1
def tM (a : AT) : Nat := a.2.2.2.2.2.1
def tS (a : AT) : Nat → Int32 := a.2.2.2.2.2.2
def slk (a : AT) : Nat := (tS a 7).toNatClampNeg
/-- a town that can be -/
def AV (a : AT) : Prop := tN a ≤ 10 ∧ tM a < 2 ^ tN a ∧ (∀ k, k < tN a → (∃ z, z ≤ 5 ∧ tK a k = nI z) ∧ (∃ z, z ≤ 99 ∧ tP a k = nI z) ∧ (-9999 ≤ (tU a k).toInt ∧ (tU a k).toInt ≤ 9999) ∧ tF a k < 2 ^ tN a) ∧ (∀ i j, i < tN a → j < tN a → (tF a i).testBit j = (tF a j).testBit i) ∧ (∃ z, z ≤ 9 ∧ tS a 7 = nI z) ∧ (∃ z, z ≤ 2 ∧ tS a 8 = nI z) ∧ (∃ z, z ≤ 100 ∧ tS a 9 = nI z) ∧ (∃ z, z ≤ 14 ∧ tS a 14 = nI z)
/-- the class's Town at b is this town -/
def AC (a : AT) (μ : Mem) (b : Nat) : Prop := μ b 5 = nI (tN a) ∧ μ b 6 = nI (tM a) ∧ (∀ j, 7 ≤ j → j ≤ 14 → μ b j = tS a j) ∧ ∀ k, k < tN a → μ (b + 1) k = tK a k ∧ μ (b + 2) k = tP a k ∧ μ (b + 3) k = tU a k ∧ μ (b + 4) k = nI (tF a k)
/-- the reference's row is this town -/
def AM (a : AT) (s : Nat → Int32) : Prop := s 0 = nI (tN a) ∧ (s 1 = tS a 14 ∧ s 2 = tS a 12 ∧ s 3 = tS a 10 ∧ s 4 = tS a 11 ∧ s 5 = tS a 13 ∧ s 6 = tS a 7 ∧ s 7 = tS a 8 ∧ s 8 = tS a 9) ∧ ∀ k, k < tN a → s (9 + 5 * k) = tK a k ∧ s (10 + 5 * k) = nI ((tM a).testBit k).toNat ∧ s (11 + 5 * k) = tP a k ∧ s (12 + 5 * k) = tU a k ∧ s (13 + 5 * k) = nI (tF a k)
def dif (x y : Nat) : Nat := if y ≤ x then x - y else y - x
def aOff (a : AT) (k m : Nat) : Nat := dif (2 * pc (tF a k &&& m)) (pc (tF a k))
theorem aOff_le (a : AT) (k m : Nat) : aOff a k m ≤ 20 := by
  unfold aOff dif
  have h1 := pc_le (tF a k &&& m)
  have h2 := pc_le (tF a k)
  split <;> omega
def aDis (a : AT) (m : Nat) : Nat := setTo (fun k => decide (slk a < aOff a k m)) (tN a)
def aOdd (a : AT) : Nat := setTo (fun k => decide (pc (tF a k) % 2 = 1)) (tN a)
def aFix (a : AT) : Nat := setTo (fun k => decide (tK a k = 5)) (tN a)
def aAll (a : AT) : Nat := aSum (fun k => aOff a k (tM a)) (tN a)
section RB
variable {a : AT} {ν μ : Mem} {b : Nat}
theorem slk_eq (h : AV a) : tS a 7 = nI (slk a) ∧ slk a ≤ 9 := by
  obtain ⟨-, -, -, -, ⟨z, hz, e⟩, -⟩ := h
  unfold slk
  rw [e, nI_clamp (by omega)]
  exact ⟨rfl, hz⟩
theorem of_w {k : Nat} (w : Nat) (hk : k < 10) (hw : w < 5) : f_X8_of (nI k) (nI w) ν = some (ν 1 (9 + 5 * k + w)) := by
  unfold f_X8_of
  rw [show ((9 : Int32) + 5 * nI k) + nI w = nI (9 + 5 * k + w) from by show (nI 9 + nI 5 * nI k) + nI w = _; rw [pk_mul, nI_add, nI_add], ldM_n (by omega) (by omega), bs]
theorem of_0 (hV : AV a) (h : AM a (ν 1)) {k : Nat} (hk : k < tN a) : f_X8_of (nI k) 0 ν = some (tK a k) := by
  rw [show (0 : Int32) = nI 0 from rfl, of_w 0 (Nat.lt_of_lt_of_le hk hV.1) (by omega)]
  rw [show 9 + 5 * k + 0 = 9 + 5 * k from rfl, (h.2.2 k hk).1]
theorem of_1 (hV : AV a) (h : AM a (ν 1)) {k : Nat} (hk : k < tN a) : f_X8_of (nI k) 1 ν = some (nI ((tM a).testBit k).toNat) := by
  rw [show (1 : Int32) = nI 1 from rfl, of_w 1 (Nat.lt_of_lt_of_le hk hV.1) (by omega)]
  rw [show 9 + 5 * k + 1 = 10 + 5 * k by omega, (h.2.2 k hk).2.1]
theorem of_2 (hV : AV a) (h : AM a (ν 1)) {k : Nat} (hk : k < tN a) : f_X8_of (nI k) 2 ν = some (tP a k) := by
  rw [show (2 : Int32) = nI 2 from rfl, of_w 2 (Nat.lt_of_lt_of_le hk hV.1) (by omega)]
  rw [show 9 + 5 * k + 2 = 11 + 5 * k by omega, (h.2.2 k hk).2.2.1]
theorem of_3 (hV : AV a) (h : AM a (ν 1)) {k : Nat} (hk : k < tN a) : f_X8_of (nI k) 3 ν = some (tU a k) := by
  rw [show (3 : Int32) = nI 3 from rfl, of_w 3 (Nat.lt_of_lt_of_le hk hV.1) (by omega)]
  rw [show 9 + 5 * k + 3 = 12 + 5 * k by omega, (h.2.2 k hk).2.2.2.1]
theorem of_4 (hV : AV a) (h : AM a (ν 1)) {k : Nat} (hk : k < tN a) : f_X8_of (nI k) 4 ν = some (nI (tF a k)) := by
  rw [show (4 : Int32) = nI 4 from rfl, of_w 4 (Nat.lt_of_lt_of_le hk hV.1) (by omega)]
  rw [show 9 + 5 * k + 4 = 13 + 5 * k by omega, (h.2.2 k hk).2.2.2.2]
theorem tF_lt (hV : AV a) {k : Nat} (hk : k < tN a) : tF a k < 1024 := p10 hV.1 (hV.2.2.1 k hk).2.2.2
theorem tM_lt (hV : AV a) : tM a < 1024 := p10 hV.1 hV.2.1
theorem and_lt {x m : Nat} (hx : x < 1024) : x &&& m < 1024 := Nat.lt_of_le_of_lt Nat.and_le_left hx
theorem off_M (x y : Nat) (hx : x < 1024) (hy : y < 1024) : f_X8_off (2 * nI x) (nI y) = some (nI (dif (2 * x) y)) := by
  unfold f_X8_off dif
  rw [show (2 : Int32) * nI x = nI (2 * x) from pk_mul 2 x]
  by_cases h : y ≤ 2 * x
  · rw [if_pos (nI_le h (by omega)), if_pos h, pk_sub h]
  · rw [if_neg (nI_ge (by omega) (by omega)), if_neg h, pk_sub (by omega)]
theorem offBy_M (hV : AV a) (h : AM a (ν 1)) {k m : Nat} (hk : k < tN a) : f_X8_offBy (nI k) (nI m) ν = some (nI (aOff a k m)) := by
  unfold f_X8_offBy
  have hf := tF_lt hV hk
  have h1 := pc_le (tF a k)
  have h2 := pc_le (tF a k &&& m)
  rw [of_4 hV h hk, bs, manyIn_n _ hf, bs, bs, fa_and, manyIn_n _ (and_lt hf), bs, off_M _ _ (by omega) (by omega), bs]
  rfl
theorem forNow_M (hV : AV a) (h : AM a (ν 1)) : f_X8_forNow ν = some (nI (tM a)) := by
  unfold f_X8_forNow
  have hn := hV.1
  refine (bl (fun k => (nI (setTo (fun j => (tM a).testBit j) k), nI k)) (nI (tM a)) (tN a) rfl (by omega) (fun k hk => ?_) ?_).trans rfl
  · unfold f_X8_forNow_L4
    dsimp only
    rw [show (0 : Int32) = nI 0 from rfl, ldM_n (by omega) (by omega), bs, h.1, if_neg (nI_ge hk (by omega)), of_1 hV h hk, bs, nms, bit_shl _ _ (by omega), fa_or, nI_1]
    rfl
  · unfold f_X8_forNow_L4
    dsimp only
    rw [show (0 : Int32) = nI 0 from rfl, ldM_n (by omega) (by omega), bs, h.1, if_pos (nI_le (Nat.le_refl _) (by omega)), setTo_self hV.2.1]
theorem offOf_M (hV : AV a) (h : AM a (ν 1)) {k : Nat} (hk : k < tN a) : f_X8_offOf (nI k) ν = some (nI (aOff a k (tM a))) := by
  unfold f_X8_offOf
  rw [forNow_M hV h, bs, offBy_M hV h hk, bs]
theorem off_C (hV : AV a) (h : AC a μ b) {k m : Nat} (hk : k < tN a) : f_X6_off b (nI k) (nI m) μ = some (nI (aOff a k m)) := by
  unfold f_X6_off
  have hn := hV.1
  have hf := tF_lt hV hk
  have h1 := pc_le (tF a k)
  have h2 := pc_le (tF a k &&& m)
  rw [ldM_n (by omega) (by omega), bs, (h.2.2.2 k hk).2.2.2]
  unfold f_X6_offAmong
  rw [fa_and, bitCount_n _ (and_lt hf), bs, bitCount_n _ hf, bs, nms, bs, show (2 : Int32) * nI (pc (tF a k &&& m)) = nI (2 * pc (tF a k &&& m)) from pk_mul 2 _]
  unfold aOff dif
  by_cases hc : pc (tF a k) ≤ 2 * pc (tF a k &&& m)
  · rw [if_pos hc, pk_sub hc, if_pos (nI_pos' (by omega))]
  · rw [if_neg hc, if_neg (fun z => absurd (Int32.le_iff_toInt_le.mp z) (by rw [pk_sub_toInt (by omega) (by omega)]; show ¬ (0 : Int) ≤ _; omega))]
    have e : (0 : Int32) - (nI (2 * pc (tF a k &&& m)) - nI (pc (tF a k))) = nI (pc (tF a k)) - nI (2 * pc (tF a k &&& m)) := by
      rw [Int32.zero_sub, Int32.neg_sub]
    rw [e, pk_sub (by omega)]
theorem offOf_C (hV : AV a) (h : AC a μ b) {k : Nat} (hk : k < tN a) : f_X6_offOf b (nI k) μ = some (nI (aOff a k (tM a))) := by
  unfold f_X6_offOf
  rw [h.2.1, off_C hV h hk, bs]
theorem allOff_M (hV : AV a) (h : AM a (ν 1)) : f_X8_allOff ν = some (nI (aAll a)) := by
  unfold f_X8_allOff
  have hn := hV.1
  refine (bl (fun k => (nI (aSum (fun j => aOff a j (tM a)) k), nI k)) (nI (aAll a)) (tN a) rfl (by omega) (fun k hk => ?_) ?_).trans rfl
  · unfold f_X8_allOff_L4
    dsimp only
    rw [show (0 : Int32) = nI 0 from rfl, ldM_n (by omega) (by omega), bs, h.1, if_neg (nI_ge hk (by omega)), offOf_M hV h hk, bs, nI_add, nI_1]
    rfl
  · unfold f_X8_allOff_L4
    dsimp only
    rw [show (0 : Int32) = nI 0 from rfl, ldM_n (by omega) (by omega), bs, h.1, if_pos (nI_le (Nat.le_refl _) (by omega))]
    rfl
theorem allOff_C (hV : AV a) (h : AC a μ b) : f_X6_offTogether b μ = some (nI (aAll a)) := by
  unfold f_X6_offTogether
  have hn := hV.1
  refine (bl (fun k => (nI (aSum (fun j => aOff a j (tM a)) k), nI k)) (nI (aAll a)) (tN a) rfl (by omega) (fun k hk => ?_) ?_).trans rfl
  · unfold f_X6_offTogether_L4
    dsimp only
    rw [h.1, if_neg (nI_ge hk (by omega)), offOf_C hV h hk, bs, nI_add, nI_1]
    rfl
  · unfold f_X6_offTogether_L4
    dsimp only
    rw [h.1, if_pos (nI_le (Nat.le_refl _) (by omega))]
    rfl
theorem disorder_M (hV : AV a) (h : AM a (ν 1)) (m : Nat) : f_X8_disorder (nI m) ν = some (nI (aDis a m)) := by
  unfold f_X8_disorder
  have hn := hV.1
  obtain ⟨hs1, hs2⟩ := slk_eq hV
  refine (bl (fun k => (nI (setTo (fun k => decide (slk a < aOff a k m)) k), nI k)) (nI (aDis a m)) (tN a) rfl (by omega) (fun k hk => ?_) ?_).trans rfl
  · unfold f_X8_disorder_L4
    dsimp only
    rw [show (0 : Int32) = nI 0 from rfl, ldM_n (by omega) (by omega), bs, h.1, if_neg (nI_ge hk (by omega)), offBy_M hV h hk, bs, show (6 : Int32) = nI 6 from rfl, ldM_n (by omega) (by omega), bs, h.2.1.2.2.2.2.2.1, hs1]
    have h20 := aOff_le a k m
    unfold f_X8_disorder_J38
    by_cases hc : aOff a k m ≤ slk a
    · rw [if_pos (nI_le hc (by omega)), fa_or, nI_1, setTo]
      rw [if_neg (by simp; omega)]
    · rw [if_neg (nI_ge (by omega) (by omega)), one_shl k (by omega), fa_or, nI_1, setTo]
      rw [if_pos (by simp; omega)]
  · unfold f_X8_disorder_L4
    dsimp only
    rw [show (0 : Int32) = nI 0 from rfl, ldM_n (by omega) (by omega), bs, h.1, if_pos (nI_le (Nat.le_refl _) (by omega))]
    rfl
theorem unruly_C (hV : AV a) (h : AC a μ b) (m : Nat) : f_X6_unruly b (nI m) μ = some (nI (aDis a m)) := by
  unfold f_X6_unruly
  have hn := hV.1
  obtain ⟨hs1, hs2⟩ := slk_eq hV
  refine (bl (fun k => (nI (setTo (fun k => decide (slk a < aOff a k m)) k), nI k)) (nI (aDis a m)) (tN a) rfl (by omega) (fun k hk => ?_) ?_).trans rfl
  · unfold f_X6_unruly_L4
    dsimp only
    rw [h.1, if_neg (nI_ge hk (by omega)), off_C hV h hk, bs, h.2.2.1 7 (by omega) (by omega), hs1]
    have h20 := aOff_le a k m
    unfold f_X6_unruly_J31
    by_cases hc : aOff a k m ≤ slk a
    · rw [if_pos (nI_le hc (by omega)), nI_1, setTo]
      rw [if_neg (by simp; omega), Nat.or_zero]
    · rw [if_neg (nI_ge (by omega) (by omega)), nms, one_shl k (by omega), fa_or, nI_1, setTo]
      rw [if_pos (by simp; omega)]
  · unfold f_X6_unruly_L4
    dsimp only
    rw [h.1, if_pos (nI_le (Nat.le_refl _) (by omega))]
    rfl
theorem bool_pc (x : Nat) : x % 2 = (decide (x % 2 = 1)).toNat := by
  rcases (by omega : x % 2 = 0 ∨ x % 2 = 1) with h | h <;> rw [h] <;> rfl
theorem oddOnes_M (hV : AV a) (h : AM a (ν 1)) : f_X8_oddOnes ν = some (nI (aOdd a)) := by
  unfold f_X8_oddOnes
  have hn := hV.1
  refine (bl (fun k => (nI (setTo (fun k => decide (pc (tF a k) % 2 = 1)) k), nI k)) (nI (aOdd a)) (tN a) rfl (by omega) (fun k hk => ?_) ?_).trans rfl
  · unfold f_X8_oddOnes_L4
    dsimp only
    rw [show (0 : Int32) = nI 0 from rfl, ldM_n (by omega) (by omega), bs, h.1, if_neg (nI_ge hk (by omega)), of_4 hV h hk, bs, manyIn_n _ (tF_lt hV hk), bs, nms, and1_nI, bool_pc, bit_shl _ _ (by omega), fa_or, nI_1]
    rfl
  · unfold f_X8_oddOnes_L4
    dsimp only
    rw [show (0 : Int32) = nI 0 from rfl, ldM_n (by omega) (by omega), bs, h.1, if_pos (nI_le (Nat.le_refl _) (by omega))]
    rfl
theorem oddOnes_C (hV : AV a) (h : AC a μ b) : f_X6_oddOnes b μ = some (nI (aOdd a)) := by
  unfold f_X6_oddOnes
  have hn := hV.1
  refine (bl (fun k => (nI (setTo (fun k => decide (pc (tF a k) % 2 = 1)) k), nI k)) (nI (aOdd a)) (tN a) rfl (by omega) (fun k hk => ?_) ?_).trans rfl
  · unfold f_X6_oddOnes_L4
    dsimp only
    rw [h.1, if_neg (nI_ge hk (by omega)), ldM_n (by omega) (by omega), bs, (h.2.2.2 k hk).2.2.2, bitCount_n _ (tF_lt hV hk), bs, nms, and1_nI, bool_pc, bit_shl _ _ (by omega), fa_or, nI_1]
    rfl
  · unfold f_X6_oddOnes_L4
    dsimp only
    rw [h.1, if_pos (nI_le (Nat.le_refl _) (by omega))]
    rfl
theorem fixedOnes_M (hV : AV a) (h : AM a (ν 1)) : f_X8_fixedOnes ν = some (nI (aFix a)) := by
  unfold f_X8_fixedOnes
  have hn := hV.1
  refine (bl (fun k => (nI (setTo (fun k => decide (tK a k = 5)) k), nI k)) (nI (aFix a)) (tN a) rfl (by omega) (fun k hk => ?_) ?_).trans rfl
  · unfold f_X8_fixedOnes_L4
    dsimp only
    rw [show (0 : Int32) = nI 0 from rfl, ldM_n (by omega) (by omega), bs, h.1, if_neg (nI_ge hk (by omega)), show nI 0 = 0 from rfl, of_0 hV h hk, bs]
    unfold f_X8_fixedOnes_J32
    by_cases hc : tK a k = 5
    · rw [if_pos hc, one_shl k (by omega), fa_or, nI_1, setTo, if_pos (by simp [hc])]
    · rw [if_neg hc, show (0 : Int32) = nI 0 from rfl, fa_or, nI_1, setTo, if_neg (by simp [hc])]
  · unfold f_X8_fixedOnes_L4
    dsimp only
    rw [show (0 : Int32) = nI 0 from rfl, ldM_n (by omega) (by omega), bs, h.1, if_pos (nI_le (Nat.le_refl _) (by omega))]
    rfl
theorem fixedOnes_C (hV : AV a) (h : AC a μ b) : f_X6_fixedOnes b μ = some (nI (aFix a)) := by
  unfold f_X6_fixedOnes
  have hn := hV.1
  refine (bl (fun k => (nI (setTo (fun k => decide (tK a k = 5)) k), nI k)) (nI (aFix a)) (tN a) rfl (by omega) (fun k hk => ?_) ?_).trans rfl
  · unfold f_X6_fixedOnes_L4
    dsimp only
    rw [h.1, if_neg (nI_ge hk (by omega)), ldM_n (by omega) (by omega), bs, (h.2.2.2 k hk).1]
    unfold f_X6_fixedOnes_J28
    by_cases hc : tK a k = 5
    · rw [if_pos hc, nms, one_shl k (by omega), fa_or, nI_1, setTo, if_pos (by simp [hc])]
    · rw [if_neg hc, nI_1, setTo, if_neg (by simp [hc]), Nat.or_zero]
  · unfold f_X6_fixedOnes_L4
    dsimp only
    rw [h.1, if_pos (nI_le (Nat.le_refl _) (by omega))]
    rfl
end RB
