/-! PERSON, DEAL -/
def addP (a : AT) (kd : Int32) (c : Bool) (pr : Int32) : AT := (tN a + 1, upd (tK a) (tN a) kd, upd (tP a) (tN a) pr, upd (tU a) (tN a) 0, (fun k => if k = tN a then 0 else tF a k), tM a ||| (if c then 2 ^ tN a else 0), tS a)
section RI
variable {a : AT} {μ ν : Mem} {b : Nat}
theorem addM_bit (hV : AV a) (c : Bool) (k : Nat) : (tM a ||| (if c then 2 ^ tN a else 0)).testBit k = if k = tN a then c else (tM a).testBit k := by
  have h0 : (tM a).testBit (tN a) = false := Nat.testBit_lt_two_pow hV.2.1
  cases c with
  | false =>
    rw [if_neg (by decide), Nat.or_zero]
    by_cases e : k = tN a
    · rw [if_pos e, e, h0]
    · rw [if_neg e]
  | true =>
    rw [if_pos rfl, Nat.testBit_or, Nat.testBit_two_pow]
    by_cases e : k = tN a
    · rw [if_pos e, e, decide_eq_true rfl, Bool.or_true]
    · rw [if_neg e, decide_eq_false (Ne.symm e), Bool.or_false]
theorem AV_add (hV : AV a) (hN : tN a < 10) {kd pr : Int32} (c : Bool) (hk : ∃ z, z ≤ 5 ∧ kd = nI z) (hp : ∃ z, z ≤ 99 ∧ pr = nI z) : AV (addP a kd c pr) := by
  obtain ⟨h1, h2, h3, h4, h5⟩ := hV
  have p2 : 2 ^ tN a < 2 ^ (tN a + 1) := Nat.pow_lt_pow_right (by omega) (by omega)
  refine ⟨by show tN a + 1 ≤ 10; omega, ?_, fun k hk2 => ⟨?_, ?_, ?_, ?_⟩, fun i j hi hj => ?_, h5⟩
  · show (tM a ||| (if c then 2 ^ tN a else 0)) < 2 ^ (tN a + 1)
    refine Nat.or_lt_two_pow (Nat.lt_trans h2 p2) ?_
    cases c
    · exact Nat.lt_of_le_of_lt (Nat.zero_le _) p2
    · exact p2
  · show ∃ z, z ≤ 5 ∧ upd (tK a) (tN a) kd k = nI z
    by_cases e : k = tN a
    · rw [e, pk_us]; exact hk
    · rw [pk_un e]; exact (h3 k (by have : k < tN a + 1 := hk2; omega)).1
  · show ∃ z, z ≤ 99 ∧ upd (tP a) (tN a) pr k = nI z
    by_cases e : k = tN a
    · rw [e, pk_us]; exact hp
    · rw [pk_un e]; exact (h3 k (by have : k < tN a + 1 := hk2; omega)).2.1
  · show -9999 ≤ (upd (tU a) (tN a) 0 k).toInt ∧ (upd (tU a) (tN a) 0 k).toInt ≤ 9999
    by_cases e : k = tN a
    · rw [e, pk_us]; decide
    · rw [pk_un e]; exact (h3 k (by have : k < tN a + 1 := hk2; omega)).2.2.1
  · show (if k = tN a then 0 else tF a k) < 2 ^ (tN a + 1)
    by_cases e : k = tN a
    · rw [if_pos e]; omega
    · rw [if_neg e]
      exact Nat.lt_trans (h3 k (by have : k < tN a + 1 := hk2; omega)).2.2.2 p2
  · show (if i = tN a then 0 else tF a i).testBit j = (if j = tN a then 0 else tF a j).testBit i
    have z : ∀ x, x < tN a → (tF a x).testBit (tN a) = false := fun x hx => Nat.testBit_lt_two_pow (h3 x hx).2.2.2
    by_cases e1 : i = tN a
    · rw [if_pos e1, Nat.zero_testBit]
      by_cases e2 : j = tN a
      · rw [if_pos e2, Nat.zero_testBit]
      · rw [if_neg e2, e1, z j (by have : j < tN a + 1 := hj; omega)]
    · rw [if_neg e1]
      by_cases e2 : j = tN a
      · rw [if_pos e2, Nat.zero_testBit, e2, z i (by have : i < tN a + 1 := hi; omega)]
      · rw [if_neg e2]
        exact h4 i j (by have : i < tN a + 1 := hi; omega) (by have : j < tN a + 1 := hj; omega)
theorem join_C (hV : AV a) (hN : tN a < 10) (h : AC a μ b) (kd : Int32) (c : Bool) (pr : Int32) : ∃ μ', f_X6_join b kd (nI c.toNat) pr μ = some μ' ∧ AC (addP a kd c pr) μ' b ∧ ∀ i, ¬ (b ≤ i ∧ i ≤ b + 4) → μ' i = μ i := by
  unfold f_X6_join
  rw [h.1, if_pos (show (nI (tN a) : Int32) < 10 from nI_lt (b := 10) hN (by omega)), stM_n hN (by omega), bs, mset_n (j := b) (by omega), h.1, stM_n hN (by omega), bs, mset_n (j := b) (by omega), mset_n (j := b) (by omega), h.1, stM_n hN (by omega), bs, mset_n (j := b) (by omega), mset_n (j := b) (by omega), mset_n (j := b) (by omega), h.1, stM_n hN (by omega), bs, nms, nms]
  refine ⟨_, rfl, ?_, ?_⟩
  · have hb : ∀ k, k ≠ 5 → k ≠ 6 → mset (mset (mset (mset (mset (mset μ (b + 1) (tN a) kd) (b + 2) (tN a) pr) (b + 3) (tN a) 0) (b + 4) (tN a) 0) b 6 (((mset (mset (mset (mset μ (b + 1) (tN a) kd) (b + 2) (tN a) pr) (b + 3) (tN a) 0) (b + 4) (tN a) 0) b 6 ||| (nI c.toNat) <<< (((mset (mset (mset (mset μ (b + 1) (tN a) kd) (b + 2) (tN a) pr) (b + 3) (tN a) 0) (b + 4) (tN a) 0) b 5) &&& 31)))) b 5 ((mset (mset (mset (mset (mset μ (b + 1) (tN a) kd) (b + 2) (tN a) pr) (b + 3) (tN a) 0) (b + 4) (tN a) 0) b 6 (((mset (mset (mset (mset μ (b + 1) (tN a) kd) (b + 2) (tN a) pr) (b + 3) (tN a) 0) (b + 4) (tN a) 0) b 6 ||| (nI c.toNat) <<< (((mset (mset (mset (mset μ (b + 1) (tN a) kd) (b + 2) (tN a) pr) (b + 3) (tN a) 0) (b + 4) (tN a) 0) b 5) &&& 31)))) b 5 + 1) b k = μ b k := fun k k1 k2 => by
      rw [mset_sn k1, mset_sn k2, mset_n (by omega), mset_n (by omega), mset_n (by omega), mset_n (by omega)]
    refine ⟨?_, ?_, fun j h7 h14 => ?_, fun k hk => ?_⟩
    · rw [mset_ss, mset_sn (by omega), mset_n (by omega), mset_n (by omega), mset_n (by omega), mset_n (by omega), h.1, nI_1]
      rfl
    · rw [mset_sn (by omega), mset_ss, mset_n (by omega), mset_n (by omega), mset_n (by omega), mset_n (by omega), h.1, h.2.1, bit_shl _ _ (by omega), fa_or]
      rfl
    · rw [hb j (by omega) (by omega)]
      exact h.2.2.1 j h7 h14
    · have hk2 : k < tN a + 1 := hk
      rw [mset_n (j := b + 1) (by omega), mset_n (j := b + 1) (by omega), mset_n (j := b + 1) (by omega), mset_n (j := b + 1) (by omega), mset_n (j := b + 1) (by omega)]
      rw [mset_n (j := b + 2) (by omega), mset_n (j := b + 2) (by omega), mset_n (j := b + 2) (by omega), mset_n (j := b + 2) (by omega)]
      rw [mset_n (j := b + 3) (by omega), mset_n (j := b + 3) (by omega), mset_n (j := b + 3) (by omega)]
      rw [mset_n (j := b + 4) (by omega), mset_n (j := b + 4) (by omega)]
      show mset μ (b + 1) (tN a) kd (b + 1) k = upd (tK a) (tN a) kd k ∧ _ = upd (tP a) (tN a) pr k ∧ _ = upd (tU a) (tN a) 0 k ∧ _ = nI (if k = tN a then 0 else tF a k)
      rw [mset_s, mset_s, mset_s, mset_s, mset_n (j := b + 2) (by omega), mset_n (j := b + 3) (by omega), mset_n (j := b + 3) (by omega), mset_n (j := b + 4) (by omega), mset_n (j := b + 4) (by omega), mset_n (j := b + 4) (by omega)]
      by_cases e : k = tN a
      · rw [e, pk_us, pk_us, pk_us, pk_us, pk_us, pk_us, pk_us, if_pos rfl]
        exact ⟨rfl, rfl, rfl, rfl⟩
      · rw [pk_un e, pk_un e, pk_un e, pk_un e, pk_un e, pk_un e, pk_un e, if_neg e]
        exact h.2.2.2 k (by omega)
  · intro i hi
    rw [mset_n (by omega), mset_n (by omega), mset_n (by omega), mset_n (by omega), mset_n (by omega), mset_n (by omega)]
theorem comes_M (hV : AV a) (hN : tN a < 10) (h : AM a (ν 1)) (kd : Int32) (c : Bool) (pr : Int32) : ∃ ν', f_X8_comes kd (nI c.toNat) pr ν = some ν' ∧ AM (addP a kd c pr) (ν' 1) ∧ (∀ i, i ≠ 1 → ν' i = ν i) ∧ ∀ q, 59 ≤ q → ν' 1 q = ν 1 q := by
  unfold f_X8_comes
  rw [ld0 h, bs, bs, show (0 : Int32) = nI 0 from rfl, stM_n (by omega) (by omega), bs, sets_n hN (by omega), bs, show (1 : Int32) = nI 1 from rfl, sets_n hN (by omega), bs, show (2 : Int32) = nI 2 from rfl, sets_n hN (by omega), bs, show (3 : Int32) = nI 3 from rfl, sets_n hN (by omega), bs, show (4 : Int32) = nI 4 from rfl, sets_n hN (by omega), bs]
  refine ⟨_, rfl, ?_, ?_, ?_⟩
  · refine ⟨?_, ?_, fun k hk => ?_⟩
    · rw [mset_sn (by omega), mset_sn (by omega), mset_sn (by omega), mset_sn (by omega), mset_sn (by omega), mset_ss, nI_add]
      rfl
    · have g : ∀ q, 1 ≤ q → q ≤ 8 → mset (mset (mset (mset (mset (mset ν 1 0 (nI (tN a) + nI 1)) 1 (9 + 5 * tN a + 0) kd) 1 (9 + 5 * tN a + 1) (nI c.toNat)) 1 (9 + 5 * tN a + 2) pr) 1 (9 + 5 * tN a + 3) (nI 0)) 1 (9 + 5 * tN a + 4) (nI 0) 1 q = ν 1 q := fun q h1 h2 => by
        rw [mset_sn (by omega), mset_sn (by omega), mset_sn (by omega), mset_sn (by omega), mset_sn (by omega), mset_sn (by omega)]
      rw [g 1 (by omega) (by omega), g 2 (by omega) (by omega), g 3 (by omega) (by omega), g 4 (by omega) (by omega), g 5 (by omega) (by omega), g 6 (by omega) (by omega), g 7 (by omega) (by omega), g 8 (by omega) (by omega)]
      exact h.2.1
    · have hk2 : k < tN a + 1 := hk
      show _ = upd (tK a) (tN a) kd k ∧ _ = nI ((tM a ||| (if c then 2 ^ tN a else 0)).testBit k).toNat ∧ _ = upd (tP a) (tN a) pr k ∧ _ = upd (tU a) (tN a) 0 k ∧ _ = nI (if k = tN a then 0 else tF a k)
      rw [addM_bit hV]
      by_cases e : k = tN a
      · rw [e, if_pos rfl, if_pos rfl, pk_us, pk_us, pk_us]
        refine ⟨?_, ?_, ?_, ?_, ?_⟩
        · rw [mset_sn (by omega), mset_sn (by omega), mset_sn (by omega), mset_sn (by omega), show 9 + 5 * tN a = 9 + 5 * tN a + 0 from rfl, mset_ss]
        · rw [mset_sn (by omega), mset_sn (by omega), mset_sn (by omega), show 10 + 5 * tN a = 9 + 5 * tN a + 1 by omega, mset_ss]
        · rw [mset_sn (by omega), mset_sn (by omega), show 11 + 5 * tN a = 9 + 5 * tN a + 2 by omega, mset_ss]
        · rw [mset_sn (by omega), show 12 + 5 * tN a = 9 + 5 * tN a + 3 by omega, mset_ss]
          rfl
        · rw [show 13 + 5 * tN a = 9 + 5 * tN a + 4 by omega, mset_ss]
      · rw [if_neg e, if_neg e, pk_un e, pk_un e, pk_un e]
        have g : ∀ q, 9 ≤ q → q < 9 + 5 * tN a → mset (mset (mset (mset (mset (mset ν 1 0 (nI (tN a) + nI 1)) 1 (9 + 5 * tN a + 0) kd) 1 (9 + 5 * tN a + 1) (nI c.toNat)) 1 (9 + 5 * tN a + 2) pr) 1 (9 + 5 * tN a + 3) (nI 0)) 1 (9 + 5 * tN a + 4) (nI 0) 1 q = ν 1 q := fun q h1 h2 => by
          rw [mset_sn (by omega), mset_sn (by omega), mset_sn (by omega), mset_sn (by omega), mset_sn (by omega), mset_sn (by omega)]
        rw [g _ (by omega) (by omega), g _ (by omega) (by omega), g _ (by omega) (by omega), g _ (by omega) (by omega), g _ (by omega) (by omega)]
        exact h.2.2 k (by omega)
  · intro i hi
    rw [mset_n hi, mset_n hi, mset_n hi, mset_n hi, mset_n hi, mset_n hi]
  · intro q hq
    rw [mset_sn (by omega), mset_sn (by omega), mset_sn (by omega), mset_sn (by omega), mset_sn (by omega), mset_sn (by omega)]
end RI
theorem Step_0 : Step Rel C7_0 C8_0 := by
  intro a μ ν hR
  obtain ⟨t, hV, hY, hC, hM, K⟩ := hR.tw2
  have hn := hV.1
  unfold C7_0 C8_0 f_X7_person f_X8_person
  simp only [o0_5, o0_1, o0_99, n0_5, n0_1, n0_99, bs, i01, i10]
  by_cases h1 : 0 ≤ (a 1).toInt ∧ (a 1).toInt ≤ 5
  · by_cases h2 : 0 ≤ (a 2).toInt ∧ (a 2).toInt ≤ 1
    · by_cases h3 : 0 ≤ (a 3).toInt ∧ (a 3).toInt ≤ 99
      · simp only [if_pos h1, if_pos h2, if_pos h3]
        obtain ⟨c, hc⟩ := is01 h2
        rw [hC.1, ld0 hM, bs, hc]
        by_cases hN : tN t < 10
        · obtain ⟨μ', e1, c1, c2⟩ := join_C hV hN hC (a 1) c (a 3)
          obtain ⟨ν', e2, m1, m2, m3⟩ := comes_M hV hN hM (a 1) c (a 3)
          rw [if_pos (show (nI (tN t) : Int32) < 10 from nI_lt (b := 10) hN (by omega)), if_neg (show ¬ (nI (tN t) : Int32) = 10 from fun z => by have := (@nI_eq (tN t) 10 (by omega) (by omega)).mp z; omega), e1, bs, e2, bs, ld0 m1, bs, c1.1]
          exact ⟨_, μ', ν', rfl, rfl, K _ μ' ν' (AV_add hV hN c (upto h1 rfl) (upto h3 rfl)) hY c1 m1 rfl (fun i i1 _ _ _ => c2 i (by omega)) ⟨fun i i1 _ _ _ _ _ _ => m2 i i1, m3⟩⟩
        · have e10 : tN t = 10 := by omega
          rw [e10]
          exact ⟨-1000000003, μ, ν, if_neg (by decide), if_pos (by rfl), hR⟩
      · simp only [if_pos h1, if_pos h2, if_neg h3]
        exact ⟨-1000000001, μ, ν, rfl, rfl, hR⟩
    · simp only [if_pos h1, if_neg h2]
      exact ⟨-1000000001, μ, ν, rfl, rfl, hR⟩
  · simp only [if_neg h1]
    exact ⟨-1000000001, μ, ν, rfl, rfl, hR⟩
