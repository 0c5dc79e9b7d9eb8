/-! FEED, TRIM, TELL -/
theorem Rel.tape {μ ν μ' ν' : Mem} (h : Rel μ ν) (hc : ∀ i, i ≠ 38 → i ≠ 39 → μ' i = μ i) (hm : ∀ i, i ≠ 0 → i ≠ 13 → ν' i = ν i) (h3 : ν' 0 3 = ν 0 3) (h29 : ν' 0 29 = ν 0 29) (ht : RTape μ' ν') : Rel μ' ν' := by
  obtain ⟨h1, -, k3, k4, k5⟩ := h
  exact ⟨h1.of (by rw [hc 0 (by omega) (by omega)]) (fun i i1 i2 i3 => hc i (by omega) (by omega)) h3 (hm 1 (by omega) (by omega)) (hm 2 (by omega) (by omega)), ht,
    k3.of (fun i i1 i2 => hc i (by omega) (by omega)) (hm 4 (by omega) (by omega)) (hm 5 (by omega) (by omega)) (hm 6 (by omega) (by omega)),
    k4.of (fun i i1 i2 => hc i (by omega) (by omega)) (fun i i1 i2 => hm i (by omega) (by omega)),
    k5.of (by rw [hc 0 (by omega) (by omega)]) (hc 66 (by omega) (by omega)) h29 (hm 17 (by omega) (by omega))⟩
theorem Rel.wait {μ ν μ' ν' : Mem} (h : Rel μ ν) (hc : ∀ i, i ≠ 0 → i ≠ 66 → μ' i = μ i) (hm : ∀ i, i ≠ 0 → i ≠ 17 → ν' i = ν i) (h10 : μ' 0 10 = μ 0 10) (h3 : ν' 0 3 = ν 0 3) (h14 : ν' 0 14 = ν 0 14) (hw : RWait μ' ν') : Rel μ' ν' := by
  obtain ⟨h1, h2, k3, k4, -⟩ := h
  exact ⟨h1.of h10 (fun i i1 i2 i3 => hc i (by omega) (by omega)) h3 (hm 1 (by omega) (by omega)) (hm 2 (by omega) (by omega)),
    h2.of (by rw [hc 38 (by omega) (by omega)]) (hc 39 (by omega) (by omega)) h14 (hm 13 (by omega) (by omega)),
    k3.of (fun i i1 i2 => hc i (by omega) (by omega)) (hm 4 (by omega) (by omega)) (hm 5 (by omega) (by omega)) (hm 6 (by omega) (by omega)),
    k4.of (fun i i1 i2 => hc i (by omega) (by omega)) (fun i i1 i2 => hm i (by omega) (by omega)), hw⟩
theorem Step_36 : Step Rel C7_36 C8_36 := by
  intro a μ ν hR
  have hR2 := hR
  obtain ⟨-, -, -, -, ⟨w, w1, w2, w3, w4⟩⟩ := hR
  unfold C7_36 C8_36 f_X7_tell f_X8_tell
  rw [w2, w3]
  by_cases c : w < 60
  · rw [if_pos (show nI w < 60 from nI_lt (b := 60) c (by omega)), if_neg (show ¬ nI w = 60 from fun z => by have := (@nI_eq w 60 (by omega) (by omega)).mp z; omega), stM_n c (by omega), bs, stM_n c (by omega), bs, mset_n (i := 66) (j := 0) (by omega), w2, nms, mset_n (i := 17) (j := 0) (by omega), w3, nms, nI_1, mset_ss, mset_ss]
    refine ⟨nI (w + 1), _, _, rfl, rfl, hR2.wait (fun i i1 i2 => by rw [mset_n i1, mset_n i2]) (fun i i1 i2 => by rw [mset_n i1, mset_n i2]) (by rw [mset_sn (by omega), mset_n (by omega)]) (by rw [mset_sn (by omega), mset_n (by omega)]) (by rw [mset_sn (by omega), mset_n (by omega)]) ⟨w + 1, by omega, mset_ss, mset_ss, fun j hj => ?_⟩⟩
    rw [mset_n (i := 0) (j := 66) (by omega), mset_n (i := 0) (j := 17) (by omega), mset_s, mset_s]
    by_cases e : j = w
    · rw [e, pk_us, pk_us]
    · rw [pk_un e, pk_un e]
      exact w4 j (by omega)
  · have e : w = 60 := by omega
    rw [e]
    exact ⟨-1000000003, μ, ν, if_neg (by decide), if_pos rfl, hR2⟩
theorem Step_23 : Step Rel C7_23 C8_23 := by
  intro a μ ν hR
  have hR2 := hR
  obtain ⟨-, ⟨len, l1, l2, l3, l4⟩, -⟩ := hR
  unfold C7_23 C8_23 f_X7_trim f_X8_trim
  rw [l2, l3, out_L (l := 0) (h := (len : Int)) _ rfl (nI_toInt (by omega)), bs, i01, isIn_L (l := 0) (h := (len : Int)) _ rfl (by rw [Int32.toInt_toInt64, nI_toInt (by omega)]), bs, i10]
  by_cases h : 0 ≤ (a 1).toInt ∧ (a 1).toInt ≤ (len : Int)
  · obtain ⟨k, hk, e⟩ := upto (n := len) h rfl
    rw [if_pos h, if_pos h, nms, nms]
    refine ⟨a 1, _, _, rfl, rfl, hR2.tape (fun i i1 i2 => mset_n i1) (fun i i1 i2 => mset_n i1) (mset_sn (by omega)) (mset_sn (by omega)) ⟨k, by omega, by rw [mset_ss, e], by rw [mset_ss, e], fun j hj => ?_⟩⟩
    rw [mset_n (by omega), mset_n (by omega)]
    exact l4 j (by omega)
  · rw [if_neg h, if_neg h]
    exact ⟨-1000000001, μ, ν, rfl, rfl, hR2⟩
def byt (w : Int32) (r : Nat) : Nat := w.toBitVec.toNat / 2 ^ (24 - 8 * r) % 2 ^ 8
theorem byt_lt (w : Int32) (r : Nat) : byt w r < 256 := by
  unfold byt
  omega
theorem byt_u (w : Int32) {r : Nat} (hr : r < 4) : ((w.toUInt32 >>> ((nI (24 - 8 * r)).toUInt32 &&& Int32.toUInt32 31)).toInt32) &&& 255 = nI (byt w r) := by
  rw [pk_and _ 8 (by decide)]
  unfold byt
  rcases (by omega : r = 0 ∨ r = 1 ∨ r = 2 ∨ r = 3) with rfl | rfl | rfl | rfl
  · rw [pk_ushr w (nI (24 - 8 * 0)) 24 (by decide)]
  · rw [pk_ushr w (nI (24 - 8 * 1)) 16 (by decide)]
  · rw [pk_ushr w (nI (24 - 8 * 2)) 8 (by decide)]
  · rw [pk_ushr w (nI (24 - 8 * 3)) 0 (by decide)]
theorem toI (y : Int32) : y.toInt = if 2 * y.toBitVec.toNat < 2 ^ 32 then (y.toBitVec.toNat : Int) else (y.toBitVec.toNat : Int) - (2 ^ 32 : Nat) := BitVec.toInt_eq_toNat_cond _
theorem byt_s (w : Int32) {r : Nat} (hr : r < 4) : (w >>> (nI (24 - 8 * r) &&& 31)) &&& 255 = nI (byt w r) := by
  rw [pk_and _ 8 (by decide)]
  unfold byt
  congr 1
  have l1 := w.toBitVec.isLt
  have l2 := (w >>> (nI (24 - 8 * r) &&& 31)).toBitVec.isLt
  rcases (by omega : r = 0 ∨ r = 1 ∨ r = 2 ∨ r = 3) with rfl | rfl | rfl | rfl
  · have h := pk_shr w (nI (24 - 8 * 0) &&& 31) 24 (by decide)
    rw [toI, toI, Int.shiftRight_eq_div_pow] at h
    split at h <;> split at h <;> omega
  · have h := pk_shr w (nI (24 - 8 * 1) &&& 31) 16 (by decide)
    rw [toI, toI, Int.shiftRight_eq_div_pow] at h
    split at h <;> split at h <;> omega
  · have h := pk_shr w (nI (24 - 8 * 2) &&& 31) 8 (by decide)
    rw [toI, toI, Int.shiftRight_eq_div_pow] at h
    split at h <;> split at h <;> omega
  · have h := pk_shr w (nI (24 - 8 * 3) &&& 31) 0 (by decide)
    rw [toI, toI, Int.shiftRight_eq_div_pow] at h
    split at h <;> split at h <;> omega
def apX (k : Nat) : Int32 := if k = 0 then 24 else if k = 1 then 16 else if k = 2 then 8 else if k = 3 then 0 else -8
theorem append_C (w : Int32) {m : Mem} {len : Nat} (hl : len + 4 ≤ 96) (h : m 38 2 = nI len) : ∃ m', f_X3_append w m = some m' ∧ m' 38 2 = nI (len + 4) ∧ (∀ q, m' 39 q = if len ≤ q ∧ q < len + 4 then nI (byt w (q - len)) else m 39 q) ∧ ∀ i, i ≠ 38 → i ≠ 39 → m' i = m i := by
  obtain ⟨m', e, p1, p2, p3⟩ := lpE (body := fun v => f_X3_append_L3 w v.1 v.2) (fun k v => v.1 = apX k ∧ v.2 38 2 = nI (len + k) ∧ (∀ q, v.2 39 q = if len ≤ q ∧ q < len + k then nI (byt w (q - len)) else m 39 q) ∧ ∀ i, i ≠ 38 → i ≠ 39 → v.2 i = m i) (fun x => x 38 2 = nI (len + 4) ∧ (∀ q, x 39 q = if len ≤ q ∧ q < len + 4 then nI (byt w (q - len)) else m 39 q) ∧ ∀ i, i ≠ 38 → i ≠ 39 → x i = m i) 4 (fuel := 4000) (v := (24, m)) (by omega) ⟨rfl, h, fun q => by rw [if_neg (by omega)], fun i _ _ => rfl⟩ (by
    intro k v hk ⟨q1, q2, q3, q4⟩
    have ex : ¬ apX k < 0 ∧ apX k = nI (24 - 8 * k) ∧ apX k + (-8) = apX (k + 1) := by
      rcases (by omega : k = 0 ∨ k = 1 ∨ k = 2 ∨ k = 3) with rfl | rfl | rfl | rfl <;> exact ⟨by decide, by decide, by decide⟩
    refine ⟨(apX (k + 1), mset (mset v.2 39 (len + k) (nI (byt w k))) 38 2 (nI (len + k + 1))), ?_, rfl, (mset_ss : mset (mset v.2 39 (len + k) (nI (byt w k))) 38 2 (nI (len + k + 1)) 38 2 = nI (len + k + 1)), fun q => ?_, fun i i1 i2 => by dsimp only; rw [mset_n i1, mset_n i2]; exact q4 i i1 i2⟩
    · unfold f_X3_append_L3
      rw [q1, if_neg ex.1, q2, if_neg (show ¬ (96 : Int32) ≤ nI (len + k) from nI_ge (b := 96) (by omega) (by omega)), ex.2.1, byt_u w hk, stM_n (by omega) (by omega), bs, mset_n (j := 38) (by omega), q2, nI_1, nms, ← ex.2.1, ex.2.2]
    · dsimp only
      rw [mset_n (by omega), mset_s]
      by_cases e : q = len + k
      · rw [e, pk_us, if_pos (by omega)]
        congr 2
        omega
      · rw [pk_un e, q3 q]
        by_cases c : len ≤ q ∧ q < len + k
        · rw [if_pos c, if_pos (by omega)]
        · rw [if_neg c, if_neg (by omega)]) (by
    intro v ⟨q1, q2, q3, q4⟩
    refine ⟨v.2, ?_, q2, q3, q4⟩
    unfold f_X3_append_L3
    rw [q1]
    exact if_pos (by decide))
  refine ⟨m', ?_, p1, p2, p3⟩
  unfold f_X3_append
  rw [e, bs]
  rfl
def fedB (w1 w2 w3 : Int32) (j : Nat) : Nat := if j < 4 then byt w1 j else if j < 8 then byt w2 (j - 4) else byt w3 (j - 8)
theorem fedB_lt (w1 w2 w3 : Int32) (j : Nat) : fedB w1 w2 w3 j < 256 := by
  unfold fedB
  split
  · exact byt_lt _ _
  · split
    · exact byt_lt _ _
    · exact byt_lt _ _
theorem feedJ {w : Int32} {m : Mem} {len k : Nat} (hl : len + k < 96) (hk : k < 12) (h : m 0 14 = nI (len + k)) : f_X8_feed_J47 (nI k) m w = some (.inl (nI (k + 1), mset (mset m 13 (len + k) (nI (byt w (k % 4)))) 0 14 (nI (len + k + 1)))) := by
  unfold f_X8_feed_J47
  have e : (24 : Int32) - 8 * nI (k % 4) = nI (24 - 8 * (k % 4)) := by
    show nI 24 - nI 8 * nI (k % 4) = _
    rw [pk_mul, pk_sub (by omega)]
  rw [show (4 : Int32) = nI 4 from rfl, rm_n (by omega) (by omega) (by omega), bs, e, byt_s w (by omega), h, stM_n hl (by omega), bs, mset_n (j := 0) (by omega), h, nI_1, nI_1, nms]
theorem Step_22 : Step Rel C7_22 C8_22 := by
  intro a μ ν hR
  have hR2 := hR
  obtain ⟨-, ⟨len, l1, l2, l3, l4⟩, -⟩ := hR
  unfold C7_22 C8_22 f_X7_feed f_X8_feed
  rw [l2, l3, show nI len + 12 = nI (len + 12) from nI_add len 12]
  by_cases c : len + 12 ≤ 96
  · rw [if_pos (show nI (len + 12) ≤ 96 from nI_le (b := 96) c (by omega)), if_pos (show nI (len + 12) ≤ 96 from nI_le (b := 96) c (by omega))]
    obtain ⟨m1, a1, a2, a3, a4⟩ := append_C (a 1) (m := μ) (len := len) (by omega) l2
    obtain ⟨m2, b1, b2, b3, b4⟩ := append_C (a 2) (m := m1) (len := len + 4) (by omega) a2
    obtain ⟨m3, c1, c2, c3, c4⟩ := append_C (a 3) (m := m2) (len := len + 4 + 4) (by omega) b2
    obtain ⟨ν', d1, d2, d3, d4, d5⟩ := lpE (body := fun v => f_X8_feed_L18 (a 1) (a 2) (a 3) v.1 v.2) (fun k v => v.1 = nI k ∧ v.2 0 14 = nI (len + k) ∧ (∀ q, v.2 13 q = if len ≤ q ∧ q < len + k then nI (fedB (a 1) (a 2) (a 3) (q - len)) else ν 13 q) ∧ (∀ i, i ≠ 0 → i ≠ 13 → v.2 i = ν i) ∧ ∀ q, q ≠ 14 → v.2 0 q = ν 0 q) (fun x => x 0 14 = nI (len + 12) ∧ (∀ q, x 13 q = if len ≤ q ∧ q < len + 12 then nI (fedB (a 1) (a 2) (a 3) (q - len)) else ν 13 q) ∧ (∀ i, i ≠ 0 → i ≠ 13 → x i = ν i) ∧ ∀ q, q ≠ 14 → x 0 q = ν 0 q) 12 (fuel := 4000) (v := (0, ν)) (by omega) ⟨rfl, l3, fun q => by rw [if_neg (by omega)], fun i _ _ => rfl, fun q _ => rfl⟩ (by
      intro k v hk ⟨q1, q2, q3, q4, q5⟩
      refine ⟨(nI (k + 1), mset (mset v.2 13 (len + k) (nI (fedB (a 1) (a 2) (a 3) k))) 0 14 (nI (len + k + 1))), ?_, rfl, (mset_ss : mset (mset v.2 13 (len + k) (nI (fedB (a 1) (a 2) (a 3) k))) 0 14 (nI (len + k + 1)) 0 14 = nI (len + k + 1)), fun q => ?_, fun i i1 i2 => by dsimp only; rw [mset_n i1, mset_n i2]; exact q4 i i1 i2, fun q hq => by dsimp only; rw [mset_sn hq, mset_n (by omega)]; exact q5 q hq⟩
      · unfold f_X8_feed_L18
        rw [q1, if_neg (show ¬ (12 : Int32) ≤ nI k from nI_ge (b := 12) hk (by omega)), feedJ (by omega) hk q2, feedJ (by omega) hk q2, feedJ (by omega) hk q2]
        unfold fedB
        by_cases k1 : k < 4
        · rw [if_neg (show ¬ (4 : Int32) ≤ nI k from nI_ge (b := 4) k1 (by omega)), if_pos k1, Nat.mod_eq_of_lt k1]
        · rw [if_pos (show (4 : Int32) ≤ nI k from nI_le (a := 4) (by omega) (by omega)), if_neg k1]
          by_cases k2 : k < 8
          · rw [if_neg (show ¬ (8 : Int32) ≤ nI k from nI_ge (b := 8) k2 (by omega)), if_pos k2, show k % 4 = k - 4 by omega]
          · rw [if_pos (show (8 : Int32) ≤ nI k from nI_le (a := 8) (by omega) (by omega)), if_neg k2, show k % 4 = k - 8 by omega]
      · dsimp only
        rw [mset_n (by omega), mset_s]
        by_cases e : q = len + k
        · rw [e, pk_us, if_pos (by omega)]
          congr 2
          omega
        · rw [pk_un e, q3 q]
          by_cases c : len ≤ q ∧ q < len + k
          · rw [if_pos c, if_pos (by omega)]
          · rw [if_neg c, if_neg (by omega)]) (by
      intro v ⟨q1, q2, q3, q4, q5⟩
      refine ⟨v.2, ?_, q2, q3, q4, q5⟩
      unfold f_X8_feed_L18
      rw [q1]
      exact if_pos (by decide))
    rw [a1, bs, b1, bs, c1, bs, d1, bs, c2]
    unfold f_X8_feed_K18_91
    rw [d2]
    refine ⟨nI (len + 4 + 4 + 4), m3, ν', rfl, rfl, hR2.tape (fun i i1 i2 => by rw [c4 i i1 i2, b4 i i1 i2, a4 i i1 i2]) d4 (d5 3 (by omega)) (d5 29 (by omega)) ⟨len + 12, c, c2, d2, fun j hj => ?_⟩⟩
    rw [c3 j, b3 j, a3 j, d3 j]
    unfold fedB
    by_cases j0 : j < len
    · rw [if_neg (by omega), if_neg (by omega), if_neg (by omega), if_neg (by omega)]
      exact l4 j j0
    · rw [if_pos (show len ≤ j ∧ j < len + 12 by omega)]
      refine ⟨?_, ⟨_, fedB_lt (a 1) (a 2) (a 3) (j - len), rfl⟩⟩
      by_cases j1 : j < len + 4
      · rw [if_neg (by omega), if_neg (by omega), if_pos (by omega), if_pos (by omega)]
      · by_cases j2 : j < len + 4 + 4
        · rw [if_neg (by omega), if_pos (by omega), if_neg (by omega), if_pos (by omega)]
          congr 2
        · rw [if_pos (by omega), if_neg (by omega), if_neg (by omega)]
          congr 2
  · rw [if_neg (show ¬ nI (len + 12) ≤ 96 from nI_ge (a := 96) (by omega) (by omega)), if_neg (show ¬ nI (len + 12) ≤ 96 from nI_ge (a := 96) (by omega) (by omega))]
    exact ⟨-1000000003, μ, ν, rfl, rfl, hR2⟩
