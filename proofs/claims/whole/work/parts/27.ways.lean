/-! WAYS: the bits over all minds -/
theorem nI_z {x : Nat} (h : x < 2 ^ 31) : nI x = 0 ↔ x = 0 := @nI_eq x 0 h (by decide)
theorem mrow_id (μ : Mem) (i : Nat) : mrow μ i (μ i) = μ := by
  funext j
  unfold mrow
  by_cases h : j = i
  · rw [if_pos h, h]
  · rw [if_neg h]
theorem mrow_mrow (μ : Mem) (i : Nat) (f g : Nat → Int32) : mrow (mrow μ i f) i g = mrow μ i g := by
  funext j
  unfold mrow
  by_cases h : j = i
  · rw [if_pos h, if_pos h]
  · rw [if_neg h, if_neg h, if_neg h]
theorem mset_mrow (μ : Mem) (i k : Nat) (f : Nat → Int32) (v : Int32) : mset (mrow μ i f) i k v = mrow μ i (upd f k v) := by
  unfold mset
  rw [mrow_s, mrow_mrow]
theorem up_lt {f : Nat → Int32} {g : Nat → Int32} {k : Nat} : upd (fun j => if j < k then f j else g j) k (f k) = fun j => if j < k + 1 then f j else g j := by
  funext j
  by_cases h : j = k
  · rw [h, pk_us, if_pos (by omega)]
  · rw [pk_un h]
    by_cases h2 : j < k
    · rw [if_pos h2, if_pos (by omega)]
    · rw [if_neg h2, if_neg (by omega)]
def aFit (a : AT) (m : Nat) : Bool := decide ((m ^^^ tM a) &&& aFix a = 0)
def aWay (a : AT) (m : Nat) : Bool := aFit a m && decide (aDis a m = 0)
def aCnt (a : AT) (k : Nat) : Nat := aSum (fun m => (aWay a m).toNat) k
def aCell (a : AT) (m : Nat) : Int32 := if aFit a m = true then nI (aDis a m) else -1
theorem aDis_lt {a : AT} (hV : AV a) (m : Nat) : aDis a m < 1024 := p10 hV.1 (setTo_lt _ _)
theorem aFix_lt {a : AT} (hV : AV a) : aFix a < 1024 := p10 hV.1 (setTo_lt _ _)
theorem pN_le {a : AT} (hV : AV a) : 2 ^ tN a ≤ 1024 := Nat.pow_le_pow_right (by omega) hV.1
theorem xM_lt {a : AT} (hV : AV a) {m : Nat} (hm : m < 1024) : m ^^^ tM a < 1024 := Nat.xor_lt_two_pow (n := 10) hm (tM_lt hV)
theorem cell_0 {a : AT} (hV : AV a) (m : Nat) : aCell a m = 0 ↔ aWay a m = true := by
  unfold aCell aWay
  cases hf : aFit a m with
  | true =>
    rw [if_pos rfl, nI_z (by have := aDis_lt hV m; omega)]
    simp
  | false =>
    rw [if_neg (by decide)]
    simp
section RC
variable {a : AT} {ν μ : Mem} {b : Nat}
theorem isWay_M (hV : AV a) (h : AM a (ν 1)) (m : Nat) : f_X8_isWay (nI m) ν = some (nI (aWay a m).toNat) := by
  have h1 := aDis_lt hV m
  have h2 := aFix_lt hV
  unfold f_X8_isWay aWay aFit
  rw [forNow_M hV h, bs, fixedOnes_M hV h, bs, fb_xorI, fa_and]
  by_cases hc : (m ^^^ tM a) &&& aFix a = 0
  · rw [if_pos (by rw [hc]; rfl), disorder_M hV h, bs, decide_eq_true hc]
    by_cases hd : aDis a m = 0
    · rw [if_pos (by rw [hd]; rfl), decide_eq_true hd]
      rfl
    · rw [if_neg (fun z => hd ((nI_z (by omega)).mp z)), decide_eq_false hd]
      rfl
  · rw [if_neg (fun z => hc ((nI_z (Nat.lt_of_le_of_lt Nat.and_le_right (by omega))).mp z)), decide_eq_false hc]
    rfl
theorem ways_M (hV : AV a) (h : AM a (ν 1)) : f_X8_ways ν = some (nI (aCnt a (2 ^ tN a))) := by
  unfold f_X8_ways
  have hn := hV.1
  have hp := pN_le hV
  refine (bl (fun k => (nI (aCnt a k), nI k)) (nI (aCnt a (2 ^ tN a))) (2 ^ tN a) rfl (by omega) (fun k hk => ?_) ?_).trans rfl
  · unfold f_X8_ways_L4
    dsimp only
    rw [show (0 : Int32) = nI 0 from rfl, ldM_n (by omega) (by omega), bs, h.1, one_shl _ (by omega), if_neg (nI_ge hk (by omega)), isWay_M hV h, bs]
    have e : aCnt a (k + 1) = aCnt a k + (aWay a k).toNat := rfl
    rw [e]
    cases aWay a k with
    | true =>
      rw [if_neg (by decide)]
      unfold f_X8_ways_J30
      rw [nI_1, nI_1]
      rfl
    | false =>
      rw [if_pos (by rfl)]
      unfold f_X8_ways_J30
      rw [nI_add, nI_1]
      rfl
  · unfold f_X8_ways_L4
    dsimp only
    rw [show (0 : Int32) = nI 0 from rfl, ldM_n (by omega) (by omega), bs, h.1, one_shl _ (by omega), if_pos (nI_le (Nat.le_refl _) (by omega))]
/-- the order has been gone through -/
def Sc (a : AT) (μ μ' : Mem) : Prop := (∀ i, i ≠ 36 → i ≠ 37 → μ' i = μ i) ∧ μ' 36 1 = nI (2 ^ tN a) ∧ ∀ m, m < 2 ^ tN a → μ' 37 m = aCell a m
theorem Sc.ac {μ' : Mem} (h : Sc a μ μ') (h0 : AC a μ 21) : AC a μ' 21 := h0.of (fun i h1 h2 => h.1 i (by omega) (by omega))
theorem scan_C (hV : AV a) (h : AC a μ 21) : ∃ μ', f_X2_scan 21 μ = some μ' ∧ Sc a μ μ' := by
  have hn := hV.1
  have hp := pN_le hV
  have m3 : Mem := mset μ 36 1 (nI (2 ^ tN a))
  have hac : ∀ f, AC a (mrow (mset μ 36 1 (nI (2 ^ tN a))) 37 f) 21 := fun f => h.of (fun i h1 h2 => by rw [mrow_n (by omega), mset_n (by omega)])
  refine ⟨mrow (mset μ 36 1 (nI (2 ^ tN a))) 37 (fun j => if j < 2 ^ tN a then aCell a j else μ 37 j), ?_, ⟨fun i h1 h2 => by rw [mrow_n h2, mset_n h1], by rw [mrow_n (by omega), mset_ss], fun m hm => by rw [mrow_s, if_pos hm]⟩⟩
  unfold f_X2_scan
  rw [fixedOnes_C hV h, bs, h.1, one_shl _ (by omega), show (1024 : Int32) = nI 1024 from rfl, if_neg (nI_nlt hp (by omega)), nms, nms]
  refine (bl (fun k => (nI k, mrow (mset μ 36 1 (nI (2 ^ tN a))) 37 (fun j => if j < k then aCell a j else μ 37 j))) _ (2 ^ tN a) ?_ (by omega) (fun k hk => ?_) ?_).trans rfl
  · rw [show (fun j => if j < 0 then aCell a j else μ 37 j) = (mset μ 36 1 (nI (2 ^ tN a))) 37 from by
      funext j
      rw [if_neg (Nat.not_lt_zero j), mset_n (by omega)], mrow_id]
    rfl
  · show f_X2_scan_L25 21 (nI (aFix a)) (nI k) (mrow (mset μ 36 1 (nI (2 ^ tN a))) 37 (fun j => if j < k then aCell a j else μ 37 j)) = _
    unfold f_X2_scan_L25
    have e6 := (hac (fun j => if j < k then aCell a j else μ 37 j)).2.1
    rw [show (mrow (mset μ 36 1 (nI (2 ^ tN a))) 37 (fun j => if j < k then aCell a j else μ 37 j)) 36 1 = nI (2 ^ tN a) from by rw [mrow_n (by omega), mset_ss], if_neg (nI_ge hk (by omega)), e6, fb_xorI, fa_and]
    have hs : ∀ v, v = aCell a k → f_X2_scan_J70 (nI k) (mrow (mset μ 36 1 (nI (2 ^ tN a))) 37 (fun j => if j < k then aCell a j else μ 37 j)) v = some (.inl (nI (k + 1), mrow (mset μ 36 1 (nI (2 ^ tN a))) 37 (fun j => if j < k + 1 then aCell a j else μ 37 j))) := by
      intro v hv
      unfold f_X2_scan_J70
      rw [stM_n (by omega) (by omega), bs, mset_mrow, hv, up_lt, nI_1]
    by_cases hc : (k ^^^ tM a) &&& aFix a = 0
    · rw [if_pos (by rw [hc]; rfl)]
      unfold f_X2_scan_J49
      rw [if_neg (by decide), unruly_C hV (hac _), bs]
      exact hs _ (by unfold aCell aFit; rw [decide_eq_true hc, if_pos rfl])
    · have h2 := aFix_lt hV
      rw [if_neg (fun z => hc ((nI_z (Nat.lt_of_le_of_lt Nat.and_le_right (by omega))).mp z))]
      unfold f_X2_scan_J49
      rw [if_pos rfl]
      exact hs _ (by unfold aCell aFit; rw [decide_eq_false hc, if_neg (by decide)])
  · show f_X2_scan_L25 21 (nI (aFix a)) (nI (2 ^ tN a)) (mrow (mset μ 36 1 (nI (2 ^ tN a))) 37 (fun j => if j < 2 ^ tN a then aCell a j else μ 37 j)) = _
    unfold f_X2_scan_L25
    rw [show (mrow (mset μ 36 1 (nI (2 ^ tN a))) 37 (fun j => if j < 2 ^ tN a then aCell a j else μ 37 j)) 36 1 = nI (2 ^ tN a) from by rw [mrow_n (by omega), mset_ss], if_pos (nI_le (Nat.le_refl _) (by omega))]
theorem howMany_C {μ' : Mem} (hV : AV a) (h : Sc a μ μ') : f_X2_howMany μ' = some (nI (aCnt a (2 ^ tN a))) := by
  unfold f_X2_howMany
  have hp := pN_le hV
  refine (bl (fun k => (nI (aCnt a k), nI k)) (nI (aCnt a (2 ^ tN a))) (2 ^ tN a) rfl (by omega) (fun k hk => ?_) ?_).trans rfl
  · unfold f_X2_howMany_L4
    dsimp only
    rw [h.2.1, if_neg (nI_ge hk (by omega)), ldM_n (by omega) (by omega), bs, h.2.2 k hk]
    have e : aCnt a (k + 1) = aCnt a k + (aWay a k).toNat := rfl
    rw [e]
    have c := cell_0 hV k
    by_cases hw : aWay a k = true
    · rw [if_pos (c.mpr hw), hw]
      unfold f_X2_howMany_J24
      rw [nI_1, nI_1]
      rfl
    · rw [if_neg (fun z => hw (c.mp z)), Bool.eq_false_iff.mpr hw]
      unfold f_X2_howMany_J24
      rw [nI_1]
      rfl
  · unfold f_X2_howMany_L4
    dsimp only
    rw [h.2.1, if_pos (nI_le (Nat.le_refl _) (by omega))]
-- what a mind asks, what minds cost
theorem dv2 (x : Int32) : dvM x 2 = some (x / 2) := if_neg (by decide)
theorem asks_s (x y : Int32) : ∃ v, f_X1_asks x y = some v := by
  unfold f_X1_asks
  rw [dv2, bs]
  repeat' split
  all_goals exact ⟨_, rfl⟩
def aAsk (a : AT) (k : Nat) : Int32 := (f_X1_asks (tK a k) (tP a k)).getD 0
theorem aAsk_s (a : AT) (k : Nat) : f_X1_asks (tK a k) (tP a k) = some (aAsk a k) := by
  obtain ⟨v, e⟩ := asks_s (tK a k) (tP a k)
  unfold aAsk
  rw [e]
  rfl
theorem asks_C (hV : AV a) (h : AC a μ b) {k : Nat} (hk : k < tN a) : f_X6_asks b (nI k) μ = some (aAsk a k) := by
  have hn := hV.1
  unfold f_X6_asks
  rw [ldM_n (by omega) (by omega), bs, ldM_n (by omega) (by omega), bs, (h.2.2.2 k hk).1, (h.2.2.2 k hk).2.1, aAsk_s, bs]
theorem asks_M (hV : AV a) (h : AM a (ν 1)) {k : Nat} (hk : k < tN a) : f_X8_asks (nI k) ν = some (aAsk a k) := by
  rw [← aAsk_s]
  unfold f_X8_asks
  rw [of_2 hV h hk, bs, of_0 hV h hk, bs]
  rfl
def aPri (a : AT) (m : Nat) : Nat → Int32
  | 0 => 0
  | k + 1 => aPri a m k + (if m.testBit k = true then aAsk a k else 0)
theorem price_M (hV : AV a) (h : AM a (ν 1)) {m : Nat} (hm : m < 1024) : f_X8_price (nI m) ν = some (aPri a m (tN a)) := by
  unfold f_X8_price
  have hn := hV.1
  refine (bl (fun k => (aPri a m k, nI k)) (aPri a m (tN a)) (tN a) rfl (by omega) (fun k hk => ?_) ?_).trans rfl
  · unfold f_X8_price_L4
    dsimp only
    rw [show ldM (ν 1) 3059 0 = some (ν 1 0) from ldM_n (k := 0) (by omega) (by omega), bs, h.1, if_neg (nI_ge hk (by omega)), bit_nI _ _ (by omega) (by omega)]
    unfold f_X8_price_J33
    have e : aPri a m (k + 1) = aPri a m k + (if m.testBit k = true then aAsk a k else 0) := rfl
    rw [e]
    cases m.testBit k with
    | true =>
      rw [if_pos (by rfl), asks_M hV h hk, bs, nI_1]
      rfl
    | false =>
      rw [if_neg (by decide), nI_1]
      rfl
  · unfold f_X8_price_L4
    dsimp only
    rw [show ldM (ν 1) 3059 0 = some (ν 1 0) from ldM_n (k := 0) (by omega) (by omega), bs, h.1, if_pos (nI_le (Nat.le_refl _) (by omega))]
theorem price_C (hV : AV a) (h : AC a μ b) {m : Nat} (hm : m < 1024) : f_X2_priceOf b (nI m) μ = some (aPri a m (tN a)) := by
  unfold f_X2_priceOf
  have hn := hV.1
  refine (bl (fun k => (aPri a m k, nI k)) (aPri a m (tN a)) (tN a) rfl (by omega) (fun k hk => ?_) ?_).trans rfl
  · unfold f_X2_priceOf_L4
    dsimp only
    rw [h.1, if_neg (nI_ge hk (by omega)), bit_nI _ _ (by omega) (by omega)]
    unfold f_X2_priceOf_J29
    have e : aPri a m (k + 1) = aPri a m k + (if m.testBit k = true then aAsk a k else 0) := rfl
    rw [e]
    cases m.testBit k with
    | true =>
      rw [if_pos (by rfl), asks_C hV h hk, bs, nI_1]
      rfl
    | false =>
      rw [if_neg (by decide), nI_1, if_neg (by decide), Int32.add_zero]
  · unfold f_X2_priceOf_L4
    dsimp only
    rw [h.1, if_pos (nI_le (Nat.le_refl _) (by omega))]
def aCost (a : AT) (m : Nat) (w : Int32) : Int32 := if w = 0 then nI (pc (m ^^^ tM a)) else if w = 1 then aPri a (m ^^^ tM a) (tN a) else if w = 2 then -(nI (pc m)) else nI (pc m)
theorem cost_M (hV : AV a) (h : AM a (ν 1)) {m : Nat} (hm : m < 1024) (w : Int32) : f_X8_cost (nI m) w ν = some (aCost a m w) := by
  have hx := xM_lt hV hm
  unfold f_X8_cost aCost
  simp only [forNow_M hV h, bs, fb_xorI, manyIn_n _ hx, price_M hV h hx, manyIn_n _ hm]
  repeat' split
  all_goals rfl
theorem cost_C (hV : AV a) (h : AC a μ b) {m : Nat} (hm : m < 1024) (w : Int32) : f_X2_cost b (nI m) w μ = some (aCost a m w) := by
  have hx := xM_lt hV hm
  unfold f_X2_cost aCost
  simp only [h.2.1, fb_xorI, bitCount_n _ hx, bs, price_C hV h hx, bitCount_n _ hm]
  repeat' split
  all_goals rfl
end RC
