/-! BEST: one friendship turned -/
def tog (a : AT) (i j : Nat) : AT := (tN a, tK a, tP a, tU a, (fun k => if k = i then tF a i ^^^ 2 ^ j else if k = j then tF a j ^^^ 2 ^ i else tF a k), tM a, tS a)
theorem tog_i (a : AT) (i j : Nat) : tF (tog a i j) i = tF a i ^^^ 2 ^ j := if_pos rfl
theorem tog_j (a : AT) {i j : Nat} (h : i ≠ j) : tF (tog a i j) j = tF a j ^^^ 2 ^ i := (if_neg (Ne.symm h)).trans (if_pos rfl)
theorem tog_k (a : AT) {i j k : Nat} (h : k ≠ i) (h2 : k ≠ j) : tF (tog a i j) k = tF a k := (if_neg h).trans (if_neg h2)
theorem tog_bit (a : AT) {i j : Nat} (h : i ≠ j) (x y : Nat) : (tF (tog a i j) x).testBit y = Bool.xor ((tF a x).testBit y) (decide ((x = i ∧ y = j) ∨ (x = j ∧ y = i))) := by
  by_cases e1 : x = i
  · rw [e1, tog_i, Nat.testBit_xor, Nat.testBit_two_pow]
    congr 1
    exact decide_eq_decide.mpr (by omega)
  · by_cases e2 : x = j
    · rw [e2, tog_j a h, Nat.testBit_xor, Nat.testBit_two_pow]
      congr 1
      exact decide_eq_decide.mpr (by omega)
    · rw [tog_k a e1 e2, decide_eq_false (by omega), Bool.xor_false]
theorem AV_tog {a : AT} (hV : AV a) {i j : Nat} (hij : i ≠ j) (hi : i < tN a) (hj : j < tN a) : AV (tog a i j) := by
  obtain ⟨h1, h2, h3, h4, h5⟩ := hV
  have px : ∀ k, k < tN a → 2 ^ k < 2 ^ tN a := fun k hk => Nat.pow_lt_pow_right (by omega) hk
  refine ⟨h1, h2, fun k hk => ⟨(h3 k hk).1, (h3 k hk).2.1, (h3 k hk).2.2.1, ?_⟩, fun x y hx hy => ?_, h5⟩
  · show tF (tog a i j) k < 2 ^ tN a
    by_cases e1 : k = i
    · rw [e1, tog_i]
      exact Nat.xor_lt_two_pow (h3 i hi).2.2.2 (px j hj)
    · by_cases e2 : k = j
      · rw [e2, tog_j a hij]
        exact Nat.xor_lt_two_pow (h3 j hj).2.2.2 (px i hi)
      · rw [tog_k a e1 e2]
        exact (h3 k hk).2.2.2
  · show (tF (tog a i j) x).testBit y = (tF (tog a i j) y).testBit x
    rw [tog_bit a hij, tog_bit a hij, h4 x y hx hy]
    congr 1
    exact decide_eq_decide.mpr (by omega)
def sbit (x j : Nat) (c : Bool) : Nat := if c = true then x ||| 2 ^ j else x &&& (2 ^ j ^^^ 4294967295)
set_option maxRecDepth 100000 in
theorem sbit_all : ∀ x, x < 1024 → ∀ j, j < 10 → ∀ c : Bool, sbit x j c = if x.testBit j = c then x else x ^^^ 2 ^ j := by decide +kernel
theorem xor_xor (x y : Nat) : (x ^^^ y) ^^^ y = x := by rw [Nat.xor_assoc, Nat.xor_self, Nat.xor_zero]
theorem offAmong_n {x : Nat} (hx : x < 1024) (m : Nat) : f_X6_offAmong (nI x) (nI m) = some (nI (dif (2 * pc (x &&& m)) (pc x))) := by
  have h1 := pc_le x
  have h2 := pc_le (x &&& m)
  unfold f_X6_offAmong dif
  rw [fa_and, bitCount_n _ (and_lt hx), bs, bitCount_n _ hx, bs, nms, show (2 : Int32) * nI (pc (x &&& m)) = nI (2 * pc (x &&& m)) from pk_mul 2 _]
  by_cases hc : pc x ≤ 2 * pc (x &&& m)
  · rw [if_pos hc, pk_sub hc, if_pos (nI_pos' (by omega))]
  · rw [if_neg hc, if_neg (fun z => absurd (Int32.le_iff_toInt_le.mp z) (by rw [pk_sub_toInt (by omega) (by omega)]; show ¬ (0 : Int) ≤ _; omega))]
    have e : (0 : Int32) - (nI (2 * pc (x &&& m)) - nI (pc x)) = nI (pc x) - nI (2 * pc (x &&& m)) := by
      rw [Int32.zero_sub, Int32.neg_sub]
    rw [e, pk_sub (by omega)]
theorem setTo_0 (p : Nat → Bool) (n : Nat) : setTo p n = 0 ↔ ∀ k, k < n → p k = false := by
  constructor
  · intro h k hk
    have := setTo_bit p n k
    rw [h, Nat.zero_testBit, decide_eq_true hk, Bool.true_and] at this
    exact this.symm
  · intro h
    apply Nat.eq_of_testBit_eq
    intro i
    rw [setTo_bit, Nat.zero_testBit]
    by_cases hi : i < n
    · rw [h i hi, Bool.and_false]
    · rw [decide_eq_false hi, Bool.false_and]
theorem mask_bit (i j k : Nat) (hk : k < 32) : ((2 ^ i ||| 2 ^ j) ^^^ 4294967295).testBit k = !(decide (i = k) || decide (j = k)) := by
  rw [Nat.testBit_xor, Nat.testBit_or, Nat.testBit_two_pow, Nat.testBit_two_pow, (by decide +kernel : ∀ k, k < 32 → Nat.testBit 4294967295 k = true) k hk, Bool.xor_true]
theorem setTo_m (p : Nat → Bool) {n : Nat} (hn : n ≤ 10) (i j : Nat) : setTo p n &&& ((2 ^ i ||| 2 ^ j) ^^^ 4294967295) = 0 ↔ ∀ k, k < n → k ≠ i → k ≠ j → p k = false := by
  constructor
  · intro h k hk h1 h2
    have e : (setTo p n &&& ((2 ^ i ||| 2 ^ j) ^^^ 4294967295)).testBit k = false := by rw [h, Nat.zero_testBit]
    rw [Nat.testBit_and, setTo_bit, mask_bit i j k (by omega), decide_eq_true hk, decide_eq_false (Ne.symm h1), decide_eq_false (Ne.symm h2)] at e
    cases hp : p k with
    | false => rfl
    | true =>
      rw [hp] at e
      exact absurd e (by decide)
  · intro h
    apply Nat.eq_of_testBit_eq
    intro k
    rw [Nat.testBit_and, setTo_bit, Nat.zero_testBit]
    by_cases hk : k < n
    · rw [mask_bit i j k (by omega)]
      by_cases h1 : i = k
      · rw [decide_eq_true h1, Bool.true_or, Bool.not_true, Bool.and_false]
      · by_cases h2 : j = k
        · rw [decide_eq_true h2, Bool.or_true, Bool.not_true, Bool.and_false]
        · rw [h k hk (Ne.symm h1) (Ne.symm h2), Bool.and_false, Bool.false_and]
    · rw [decide_eq_false hk, Bool.false_and, Bool.false_and]
theorem tog_way {a : AT} (hV : AV a) {i j : Nat} (hij : i ≠ j) (hi : i < tN a) (hj : j < tN a) (m : Nat) : aWay (tog a i j) m = true ↔ aFit a m = true ∧ aDis a m &&& ((2 ^ i ||| 2 ^ j) ^^^ 4294967295) = 0 ∧ aOff (tog a i j) i m ≤ slk a ∧ aOff (tog a i j) j m ≤ slk a := by
  have e1 : aFit (tog a i j) m = aFit a m := rfl
  have e2 : aDis (tog a i j) m = setTo (fun k => decide (slk a < aOff (tog a i j) k m)) (tN a) := rfl
  have e3 : ∀ k, k ≠ i → k ≠ j → aOff (tog a i j) k m = aOff a k m := by
    intro k h1 h2
    unfold aOff
    rw [tog_k a h1 h2]
  unfold aWay
  rw [e1, e2, Bool.and_eq_true, decide_eq_true_iff, setTo_0]
  unfold aDis
  rw [setTo_m _ hV.1]
  constructor
  · intro ⟨f, h⟩
    refine ⟨f, fun k hk h1 h2 => ?_, ?_, ?_⟩
    · rw [← e3 k h1 h2]
      exact h k hk
    · have := of_decide_eq_false (h i hi)
      omega
    · have := of_decide_eq_false (h j hj)
      omega
  · intro ⟨f, h, c1, c2⟩
    refine ⟨f, fun k hk => ?_⟩
    by_cases h1 : k = i
    · rw [h1]
      exact decide_eq_false (by omega)
    · by_cases h2 : k = j
      · rw [h2]
        exact decide_eq_false (by omega)
      · rw [e3 k h1 h2]
        exact h k hk h1 h2
theorem nI_notN {n : Nat} (h : n < 2 ^ 31) : ¬ nI n = (-1 : Int32) := fun z => nI_pos h (by rw [z]; decide)
section RE
variable {a : AT} {ν μ μ' : Mem}
theorem turned_C (hV : AV a) (hac : AC a μ' 21) (h : Sc a μ μ') {i j : Nat} (hij : i ≠ j) (hi : i < tN a) (hj : j < tN a) : f_X2_howManyTurned 21 (nI i) (nI j) μ' = some (nI (aCnt (tog a i j) (2 ^ tN a))) := by
  unfold f_X2_howManyTurned
  have hn := hV.1
  have hp := pN_le hV
  have hV' := AV_tog hV hij hi hj
  obtain ⟨hs1, hs2⟩ := slk_eq hV
  have fi := tF_lt hV' hi
  have fj := tF_lt hV' hj
  have ei := tog_i a i j
  have ej := tog_j a hij
  rw [one_shl _ (by omega), one_shl _ (by omega), fa_or, show (-1 : Int32) = nI 4294967295 from rfl, fb_xorI, nms, ldM_n (by omega) (by omega), bs, (hac.2.2.2 i hi).2.2.2, fb_xorI, nms, ldM_n (by omega) (by omega), bs, (hac.2.2.2 j hj).2.2.2, fb_xorI, nms, ← ei, ← ej]
  refine (bl (fun k => (nI (aCnt (tog a i j) k), nI k)) (nI (aCnt (tog a i j) (2 ^ tN a))) (2 ^ tN a) rfl (by omega) (fun k hk => ?_) ?_).trans rfl
  · show f_X2_howManyTurned_L41 21 μ' (nI ((2 ^ i ||| 2 ^ j) ^^^ 4294967295)) (nI (tF (tog a i j) i)) (nI (tF (tog a i j) j)) (nI (aCnt (tog a i j) k)) (nI k) = _
    unfold f_X2_howManyTurned_L41
    have hd := aDis_lt hV k
    rw [h.2.1, if_neg (nI_ge hk (by omega)), ldM_n (by omega) (by omega), bs, bs, h.2.2 k hk, offAmong_n fi, bs, offAmong_n fj, bs, hac.2.2.1 7 (by omega) (by omega), hs1]
    have e : aCnt (tog a i j) (k + 1) = aCnt (tog a i j) k + (aWay (tog a i j) k).toNat := rfl
    have w := tog_way hV hij hi hj k
    have oi : dif (2 * pc (tF (tog a i j) i &&& k)) (pc (tF (tog a i j) i)) = aOff (tog a i j) i k := rfl
    have oj : dif (2 * pc (tF (tog a i j) j &&& k)) (pc (tF (tog a i j) j)) = aOff (tog a i j) j k := rfl
    have li := aOff_le (tog a i j) i k
    have lj := aOff_le (tog a i j) j k
    rw [oi, oj, e]
    unfold f_X2_howManyTurned_J105
    rw [nI_1, nI_1]
    have no : ¬ aWay (tog a i j) k = true → aCnt (tog a i j) k + (aWay (tog a i j) k).toNat = aCnt (tog a i j) k := fun z => by
      rw [Bool.eq_false_iff.mpr z]
      rfl
    have yes : aWay (tog a i j) k = true → aCnt (tog a i j) k + (aWay (tog a i j) k).toNat = aCnt (tog a i j) k + 1 := fun z => by
      rw [z]
      rfl
    unfold aCell
    by_cases c0 : aFit a k = true
    · rw [if_pos c0, if_neg (nI_notN (by omega)), fa_and]
      by_cases c1 : aDis a k &&& ((2 ^ i ||| 2 ^ j) ^^^ 4294967295) = 0
      · rw [if_pos (by rw [c1]; rfl)]
        by_cases c2 : aOff (tog a i j) i k ≤ slk a
        · rw [if_neg (nI_nlt c2 (by omega))]
          by_cases c3 : aOff (tog a i j) j k ≤ slk a
          · rw [if_neg (nI_nlt c3 (by omega)), yes (w.mpr ⟨c0, c1, c2, c3⟩)]
          · rw [if_pos (nI_lt (by omega) (by omega)), no (fun z => c3 (w.mp z).2.2.2)]
        · rw [if_pos (nI_lt (by omega) (by omega)), no (fun z => c2 (w.mp z).2.2.1)]
      · rw [if_neg (fun z => c1 ((nI_z (Nat.lt_of_le_of_lt Nat.and_le_left (by omega))).mp z)), no (fun z => c1 (w.mp z).2.1)]
    · rw [if_neg c0, if_pos rfl, no (fun z => c0 (w.mp z).1)]
  · show f_X2_howManyTurned_L41 21 μ' (nI ((2 ^ i ||| 2 ^ j) ^^^ 4294967295)) (nI (tF (tog a i j) i)) (nI (tF (tog a i j) j)) (nI (aCnt (tog a i j) (2 ^ tN a))) (nI (2 ^ tN a)) = _
    unfold f_X2_howManyTurned_L41
    rw [h.2.1, if_pos (nI_le (Nat.le_refl _) (by omega))]
end RE
