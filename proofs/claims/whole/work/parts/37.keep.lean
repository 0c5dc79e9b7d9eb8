/-! KEEP, BACK, COUNT -/
theorem cp_e (μ : Mem) (i j : Nat) : ∃ μ1, cpM μ i 10 0 j 10 0 10 = some μ1 ∧ (∀ k, k ≠ j → μ1 k = μ k) ∧ ∀ q, q < 10 → μ1 j q = μ i q := ⟨mrow μ j (va_cpy (μ i) (μ j) 0 0 10), rfl, fun k hk => mrow_n hk, fun q hq => by
  rw [mrow_s, pk_cpy_in (by omega) (by omega)]
  congr 1
  omega⟩
def cN (b b0 : Nat) : Nat → Mem → Mem
  | 0, μ => μ
  | n + 1, μ => mset (cN b b0 n μ) b (5 + n) (cN b b0 n μ b0 (5 + n))
theorem cN_o {b b0 i : Nat} (h : i ≠ b) (μ : Mem) : ∀ n, cN b b0 n μ i = μ i
  | 0 => rfl
  | n + 1 => by rw [cN, mset_n h, cN_o h μ n]
theorem cN_b {b b0 : Nat} (h : b0 ≠ b) (μ : Mem) (j : Nat) : ∀ n, cN b b0 n μ b j = if 5 ≤ j ∧ j < 5 + n then μ b0 j else μ b j
  | 0 => by rw [if_neg (by omega)]; rfl
  | n + 1 => by
    rw [cN]
    by_cases e : j = 5 + n
    · rw [e, mset_ss, cN_o h, if_pos (by omega)]
    · rw [mset_sn e, cN_b h μ j n]
      by_cases c : 5 ≤ j ∧ j < 5 + n
      · rw [if_pos c, if_pos (by omega)]
      · rw [if_neg c, if_neg (by omega)]
theorem become_C {a : AT} {μ : Mem} {b b0 : Nat} (hb : b + 5 ≤ b0 ∨ b0 + 5 ≤ b) (h : AC a μ b0) (hV : AV a) : ∃ μ', f_X6_become b b0 μ = some μ' ∧ AC a μ' b ∧ ∀ i, ¬ (b ≤ i ∧ i ≤ b + 4) → μ' i = μ i := by
  have hn := hV.1
  obtain ⟨μ1, a1, a2, a3⟩ := cp_e μ (b0 + 1) (b + 1)
  obtain ⟨μ2, b1, b2, b3⟩ := cp_e μ1 (b0 + 2) (b + 2)
  obtain ⟨μ3, c1, c2, c3⟩ := cp_e μ2 (b0 + 3) (b + 3)
  obtain ⟨μ4, d1, d2, d3⟩ := cp_e μ3 (b0 + 4) (b + 4)
  unfold f_X6_become
  rw [a1, bs, b1, bs, c1, bs, d1, bs]
  have o : ∀ i, ¬ (b + 1 ≤ i ∧ i ≤ b + 4) → μ4 i = μ i := fun i hi => by rw [d2 i (by omega), c2 i (by omega), b2 i (by omega), a2 i (by omega)]
  refine ⟨cN b b0 10 μ4, rfl, ⟨?_, ?_, fun j h7 h14 => ?_, fun k hk => ⟨?_, ?_, ?_, ?_⟩⟩, fun i hi => by rw [cN_o (by omega), o i (by omega)]⟩
  · rw [cN_b (by omega), if_pos (by omega), o b0 (by omega)]; exact h.1
  · rw [cN_b (by omega), if_pos (by omega), o b0 (by omega)]; exact h.2.1
  · rw [cN_b (by omega), if_pos (by omega), o b0 (by omega)]; exact h.2.2.1 j h7 h14
  · rw [cN_o (by omega), d2 _ (by omega), c2 _ (by omega), b2 _ (by omega), a3 k (by omega)]; exact (h.2.2.2 k hk).1
  · rw [cN_o (by omega), d2 _ (by omega), c2 _ (by omega), b3 k (by omega), a2 _ (by omega)]; exact (h.2.2.2 k hk).2.1
  · rw [cN_o (by omega), d2 _ (by omega), c3 k (by omega), b2 _ (by omega), a2 _ (by omega)]; exact (h.2.2.2 k hk).2.2.1
  · rw [cN_o (by omega), d3 k (by omega), c2 _ (by omega), b2 _ (by omega), a2 _ (by omega)]; exact (h.2.2.2 k hk).2.2.2
theorem aside_M (ν : Mem) {i j : Nat} (hij : i ≠ j) : f_X8_setAside i j ν = some (mrow ν j (fun q => if q < 2859 then ν i q else ν j q)) := by
  unfold f_X8_setAside
  refine (bl (fun k => (nI k, mrow ν j (fun q => if q < k then ν i q else ν j q))) _ 2859 ?_ (by omega) (fun k hk => ?_) ?_).trans rfl
  · rw [show (fun q => if q < 0 then ν i q else ν j q) = ν j from by
      funext q
      rw [if_neg (Nat.not_lt_zero q)], mrow_id]
    rfl
  · show f_X8_setAside_L2 i j (nI k) (mrow ν j (fun q => if q < k then ν i q else ν j q)) = _
    unfold f_X8_setAside_L2
    rw [show (2859 : Int32) = nI 2859 from rfl, if_neg (nI_ge hk (by omega)), ldM_n (by omega) (by omega), bs, stM_n (by omega) (by omega), bs, mset_mrow, mrow_n hij, up_lt, nI_1]
  · show f_X8_setAside_L2 i j (nI 2859) (mrow ν j (fun q => if q < 2859 then ν i q else ν j q)) = _
    unfold f_X8_setAside_L2
    rw [show (2859 : Int32) = nI 2859 from rfl, if_pos (nI_le (Nat.le_refl _) (by omega))]
/-- rows that say the same of a town and its texts -/
theorem AM.cut {a : AT} {s s' : Nat → Int32} (h : AM a s) (hn : tN a ≤ 10) (e : ∀ q, q < 59 → s' q = s q) : AM a s' := by
  unfold AM
  rw [e 0 (by omega), e 1 (by omega), e 2 (by omega), e 3 (by omega), e 4 (by omega), e 5 (by omega), e 6 (by omega), e 7 (by omega), e 8 (by omega)]
  refine ⟨h.1, h.2.1, fun k hk => ?_⟩
  rw [e _ (by omega), e _ (by omega), e _ (by omega), e _ (by omega), e _ (by omega)]
  exact h.2.2 k hk
theorem TM.cut {t : TB} {s s' : Nat → Int32} {n : Nat} (h : TM t s n) (hn : n ≤ 14) (hT : TV t n) (e : ∀ q, 59 ≤ q → q < 2859 → s' q = s q) : TM t s' n := by
  intro i hi
  obtain ⟨g1, g2, g3, g4⟩ := h i hi
  have hL := (hT i hi).2.1
  refine ⟨by rw [e _ (by omega) (by omega)]; exact g1, by rw [e _ (by omega) (by omega)]; exact g2, by rw [e _ (by omega) (by omega)]; exact g3, fun j hj => ?_⟩
  rw [e _ (by omega) (by omega), e _ (by omega) (by omega)]
  exact g4 j hj
theorem TV.le {t : TB} {n m : Nat} (h : TV t n) (hm : m ≤ n) : TV t m := fun i hi => h i (by omega)
theorem TC.le {t : TB} {μ : Mem} {n m : Nat} (h : TC t μ n) (hm : m ≤ n) : TC t μ m := fun i hi => h i (by omega)
theorem Step_38 : Step Rel C7_38 C8_38 := by
  intro a μ ν hR
  obtain ⟨⟨t, x, ⟨e1, e2, e3, e4, e5⟩, e6, e7, e8⟩, h2, h3, h4, h5⟩ := hR
  have x14 := (tX_eq e1).2
  obtain ⟨μ1, c1, c2, c3⟩ := become_C (b := 26) (b0 := 21) (by omega) e3 e1
  unfold C7_38 C8_38 f_X7_keep f_X8_keep
  rw [c1, bs, nms, nms, aside_M _ (by omega), bs, mset_n (j := 26) (by omega), c2.1]
  have m1 : AM x ((mset ν 0 3 1) 1) := by rw [mset_n (by omega)]; exact e4
  have m1' : AM x ((mrow (mset ν 0 3 1) 2 (fun q => if q < 2859 then mset ν 0 3 1 1 q else mset ν 0 3 1 2 q)) 1) := by rw [mrow_n (by omega)]; exact m1
  rw [ld0 m1', bs]
  have hc : ∀ i, ¬ (26 ≤ i ∧ i ≤ 30) → i ≠ 0 → mset μ1 0 10 1 i = μ i := fun i i1 i2 => by rw [mset_n i2, c3 i (by omega)]
  have hm : ∀ i, i ≠ 2 → i ≠ 0 → mrow (mset ν 0 3 1) 2 (fun q => if q < 2859 then mset ν 0 3 1 1 q else mset ν 0 3 1 2 q) i = ν i := fun i i1 i2 => by rw [mrow_n i1, mset_n i2]
  have hc0 : ∀ k, k ≠ 10 → mset μ1 0 10 1 0 k = μ 0 k := fun k hk => by rw [mset_sn hk, c3 0 (by omega)]
  have hm0 : ∀ k, k ≠ 3 → mrow (mset ν 0 3 1) 2 (fun q => if q < 2859 then mset ν 0 3 1 1 q else mset ν 0 3 1 2 q) 0 k = ν 0 k := fun k hk => by rw [mrow_n (by omega), mset_sn hk]
  refine ⟨nI (tN x), _, _, rfl, rfl, ⟨t, x, ⟨e1, e2, ?_, m1', ?_⟩, e6, ?_, Or.inr ⟨mset_ss, ?_, x, ⟨e1, e2, ?_, ?_, ?_⟩, Nat.le_refl _⟩⟩, ?_, ?_, ?_, ?_⟩
  · exact e3.of (fun i i1 i2 => hc i (by omega) (by omega))
  · rw [hm 1 (by omega) (by omega)]; exact e5
  · exact e7.of x14 (fun i i1 i2 i3 => hc i (by omega) (by omega))
  · rw [mrow_n (by omega), mset_ss]
  · exact c2.of (fun i i1 i2 => mset_n (by omega))
  · rw [mrow_s]
    exact m1.cut e1.1 (fun q hq => if_pos (by omega))
  · rw [mrow_s]
    refine TM.cut e5 x14 e6 (fun q q1 q2 => ?_)
    rw [if_pos q2, mset_n (by omega)]
  · exact h2.of (by rw [hc 38 (by omega) (by omega)]) (hc 39 (by omega) (by omega)) (hm0 14 (by omega)) (hm 13 (by omega) (by omega))
  · exact h3.of (fun i i1 i2 => hc i (by omega) (by omega)) (hm 4 (by omega) (by omega)) (hm 5 (by omega) (by omega)) (hm 6 (by omega) (by omega))
  · exact h4.of (fun i i1 i2 => hc i (by omega) (by omega)) (fun i i1 i2 => hm i (by omega) (by omega))
  · exact h5.of (hc0 9 (by omega)) (hc 66 (by omega) (by omega)) (hm0 29 (by omega)) (hm 17 (by omega) (by omega))
theorem Step_39 : Step Rel C7_39 C8_39 := by
  intro a μ ν hR
  have hR2 := hR
  obtain ⟨⟨t, x, ⟨e1, e2, e3, e4, e5⟩, e6, e7, e8⟩, h2, h3, h4, h5⟩ := hR
  unfold C7_39 C8_39 f_X7_back f_X8_back
  rcases e8 with ⟨k1, k2⟩ | ⟨k1, k2, y, ⟨y1, y2, y3, y4, y5⟩, y6⟩
  · rw [k1, k2]
    exact ⟨-1000000002, μ, ν, rfl, rfl, hR2⟩
  · have x14 := (tX_eq e1).2
    obtain ⟨μ1, c1, c2, c3⟩ := become_C (b := 21) (b0 := 26) (by omega) y3 y1
    rw [k1, k2, if_neg one_0, if_neg one_0, c1, bs, aside_M _ (by omega), bs, c2.1]
    have m1 : AM y ((mrow ν 1 (fun q => if q < 2859 then ν 2 q else ν 1 q)) 1) := by
      rw [mrow_s]
      exact y4.cut y1.1 (fun q hq => if_pos (by omega))
    rw [ld0 m1, bs]
    have hc : ∀ i, ¬ (21 ≤ i ∧ i ≤ 25) → μ1 i = μ i := fun i i1 => c3 i (by omega)
    have hm : ∀ i, i ≠ 1 → mrow ν 1 (fun q => if q < 2859 then ν 2 q else ν 1 q) i = ν i := fun i i1 => mrow_n i1
    refine ⟨nI (tN y), _, _, rfl, rfl, ⟨t, y, ⟨y1, y2, c2, m1, ?_⟩, e6.le y6, ?_, Or.inr ⟨by rw [hc 0 (by omega)]; exact k1, by rw [hm 0 (by omega)]; exact k2, y, ⟨y1, y2, ?_, ?_, ?_⟩, Nat.le_refl _⟩⟩, ?_, ?_, ?_, ?_⟩
    · rw [mrow_s]
      exact y5.cut (by omega) (e6.le y6) (fun q q1 q2 => if_pos q2)
    · exact (e7.of x14 (fun i i1 i2 i3 => hc i (by omega))).le y6
    · exact y3.of (fun i i1 i2 => hc i (by omega))
    · rw [hm 2 (by omega)]; exact y4
    · rw [hm 2 (by omega)]; exact y5
    · exact h2.of (by rw [hc 38 (by omega)]) (hc 39 (by omega)) (by rw [hm 0 (by omega)]) (hm 13 (by omega))
    · exact h3.of (fun i i1 i2 => hc i (by omega)) (hm 4 (by omega)) (hm 5 (by omega)) (hm 6 (by omega))
    · exact h4.of (fun i i1 i2 => hc i (by omega)) (fun i i1 i2 => hm i (by omega))
    · exact h5.of (by rw [hc 0 (by omega)]) (hc 66 (by omega)) (by rw [hm 0 (by omega)]) (hm 17 (by omega))
theorem Step_40 : Step Rel C7_40 C8_40 := by
  intro a μ ν hR
  obtain ⟨t, hV, hY, hC, hM⟩ := hR.tw
  have hR2 := hR
  obtain ⟨-, ⟨len, l1, l2, l3, -⟩, -, -, ⟨w, w1, w2, w3, -⟩⟩ := hR
  have hm := tM_lt hV
  have e8 : f_X8_count (a 1) ν = f_X7_count (a 1) μ := by
    unfold f_X8_count f_X7_count
    rw [ld0 hM, show ldM (ν 1) 3059 2 = some (tS t 12) from (ldk (k := 2) (by omega)).trans (by rw [hM.2.1.2.1]), show ldM (ν 1) 3059 6 = some (tS t 7) from (ldk (k := 6) (by omega)).trans (by rw [hM.2.1.2.2.2.2.2.1]), show ldM (ν 1) 3059 7 = some (tS t 8) from (ldk (k := 7) (by omega)).trans (by rw [hM.2.1.2.2.2.2.2.2.1]), show ldM (ν 1) 3059 8 = some (tS t 9) from (ldk (k := 8) (by omega)).trans (by rw [hM.2.1.2.2.2.2.2.2.2]), show ldM (ν 1) 3059 1 = some (tS t 14) from (ldk (k := 1) (by omega)).trans (by rw [hM.2.1.1]), show ldM (ν 1) 3059 5 = some (tS t 13) from (ldk (k := 5) (by omega)).trans (by rw [hM.2.1.2.2.2.2.1]), forNow_M hV hM, bs, bs, bs, bs, bs, bs, manyIn_n _ hm, bs, bs, bs]
    rw [hC.1, hC.2.1, bitCount_n _ hm, bs, hC.2.2.1 12 (by omega) (by omega), hC.2.2.1 7 (by omega) (by omega), hC.2.2.1 8 (by omega) (by omega), hC.2.2.1 9 (by omega) (by omega), hC.2.2.1 14 (by omega) (by omega), hC.2.2.1 13 (by omega) (by omega), l2, l3, w2, w3]
  have e7 : ∃ v, f_X7_count (a 1) μ = some v := by
    unfold f_X7_count
    rw [hC.2.1, bitCount_n _ hm, bs]
    repeat' split
    all_goals exact ⟨_, rfl⟩
  obtain ⟨v, ev⟩ := e7
  unfold C7_40 C8_40 ro
  rw [e8, ev, bs, bs]
  exact ⟨v, μ, ν, rfl, rfl, hR2⟩
