/-! COPY -/
theorem rng (x : Int32) : -(2 ^ 31 : Int) ≤ x.toInt ∧ x.toInt < 2 ^ 31 := by
  rw [toI]
  have := x.toBitVec.isLt
  split <;> omega
theorem lacks_C {μ : Mem} {b z : Nat} (h : μ b 2 = nI z) (hz : z ≤ 24) (x y : Int32) : f_X4_lacks b x y μ = some (if 0 ≤ x.toInt ∧ 0 ≤ y.toInt ∧ x.toInt + y.toInt ≤ (z : Int) then 0 else 1) := by
  unfold f_X4_lacks
  rw [h]
  have e0 : (0 : Int32).toInt = 0 := rfl
  have ez : (nI z).toInt = (z : Int) := nI_toInt (by omega)
  have rx := rng x
  have ry := rng y
  by_cases h1 : x < 0
  · rw [if_pos h1, if_neg (fun w => by have := Int32.lt_iff_toInt_lt.mp h1; omega)]
  · rw [if_neg h1]
    have a1 : 0 ≤ x.toInt := Int.not_lt.mp (fun w => h1 (Int32.lt_iff_toInt_lt.mpr w))
    by_cases h2 : y < 0
    · rw [if_pos h2, if_neg (fun w => by have := Int32.lt_iff_toInt_lt.mp h2; omega)]
    · rw [if_neg h2]
      have a2 : 0 ≤ y.toInt := Int.not_lt.mp (fun w => h2 (Int32.lt_iff_toInt_lt.mpr w))
      have es : (nI z - y).toInt = (z : Int) - y.toInt := by rw [sub_in (by omega) (by omega), ez]
      by_cases h3 : x ≤ nI z - y
      · have := Int32.le_iff_toInt_le.mp h3
        rw [if_pos h3, if_pos ⟨a1, a2, by omega⟩]
      · rw [if_neg h3, if_neg (fun w => h3 (Int32.le_iff_toInt_le.mpr (by omega)))]
theorem add64 (x y : Int32) : (x.toInt64 + y.toInt64).toInt = x.toInt + y.toInt := by
  have rx := rng x
  have ry := rng y
  rw [Int64.toInt_add, Int32.toInt_toInt64, Int32.toInt_toInt64, Int.bmod_def]
  split <;> omega
theorem gtc (x y : Int32) {z : Nat} (hz : z ≤ 24) : 0 < lg_cmp (x.toInt64 + y.toInt64) (nI z).toInt64 ↔ (z : Int) < x.toInt + y.toInt := by
  rw [lg_cmp_gt, Int64.lt_iff_toInt_lt, add64, Int32.toInt_toInt64, nI_toInt (by omega)]
theorem lec (x y : Int32) {z : Nat} (hz : z ≤ 24) : lg_cmp (x.toInt64 + y.toInt64) (nI z).toInt64 ≤ 0 ↔ x.toInt + y.toInt ≤ (z : Int) := by
  have h := gtc x y hz
  have e : lg_cmp (x.toInt64 + y.toInt64) (nI z).toInt64 ≤ 0 ↔ ¬ 0 < lg_cmp (x.toInt64 + y.toInt64) (nI z).toInt64 := by
    rw [Int32.le_iff_toInt_le, Int32.lt_iff_toInt_lt]
    omega
  rw [e, h]
  omega
theorem S1_copy {μ ν : Mem} (h : RSheet μ ν) {i j p q n : Nat} (hi : i < 4) (hj : j < 4) (hp : p + n ≤ 24) (hq : q + n ≤ 24) (hs : ν 4 i = ν 4 j) (f : Nat → Int32) : RSheet (mrow μ (42 + 2 * j + 1) (va_cpy (μ (42 + 2 * i + 1)) (μ (42 + 2 * j + 1)) p q n)) (mrow (mrow ν 16 f) 6 (fun r => if 24 * j + q ≤ r ∧ r < 24 * j + q + n then ν 6 (24 * i + p + (r - (24 * j + q))) else ν 6 r)) := by
  intro l hl
  by_cases e : l = j
  · subst e
    obtain ⟨g1, g2, g3, g4, g5⟩ := h l hl
    obtain ⟨i1, i2, i3, i4, i5⟩ := h i hi
    unfold SV
    rw [mrow_n (j := 42 + 2 * l) (by omega), mrow_n (i := 6) (j := 4) (by omega), mrow_n (i := 16) (j := 4) (by omega), mrow_n (i := 6) (j := 5) (by omega), mrow_n (i := 16) (j := 5) (by omega)]
    refine ⟨g1, g2, fun m hm => ?_, g4, fun m hm => ?_⟩
    · rw [mrow_s, mrow_s]
      by_cases c : q ≤ m ∧ m < q + n
      · rw [pk_cpy_in c.1 c.2, if_pos (by omega), i3 _ (by omega)]
        congr 1
        omega
      · rw [pk_cpy_out (by omega), if_neg (by omega)]
        exact g3 m hm
    · dsimp only
      rw [mrow_s]
      by_cases c : q ≤ m ∧ m < q + n
      · rw [if_pos (by omega), show 24 * i + p + (24 * l + m - (24 * l + q)) = 24 * i + (p + (m - q)) by omega, ← hs]
        exact i5 (p + (m - q)) (by omega)
      · rw [if_neg (by omega)]
        exact g5 m hm
  · refine S1.of (h l hl) ?_ ?_ ?_ ?_ (fun m hm => ?_)
    · rw [mrow_n (by omega)]
    · rw [mrow_n (by omega)]
    · rw [mrow_n (by omega), mrow_n (by omega)]
    · rw [mrow_n (by omega), mrow_n (by omega)]
    · rw [mrow_s, if_neg (by omega)]
theorem copyM (ν : Mem) {i j p q n : Nat} (hi : i < 4) (hj : j < 4) (hp : p + n ≤ 24) (hq : q + n ≤ 24) : (bn1 (lpF (fun v => f_X8_copy_L113 (nI i) (nI p) (nI n) v.1 v.2) 4000 (0, ν)) (fun x => f_X8_copy_K113_147 (nI j) (nI q) (nI n) x)) = some (nI n, mrow (mrow ν 16 (fun r => if r < n then ν 6 (24 * i + p + r) else ν 16 r)) 6 (fun r => if 24 * j + q ≤ r ∧ r < 24 * j + q + n then ν 6 (24 * i + p + (r - (24 * j + q))) else ν 6 r)) := by
  refine (bl (fun k => (nI k, mrow ν 16 (fun r => if r < k then ν 6 (24 * i + p + r) else ν 16 r))) (mrow ν 16 (fun r => if r < n then ν 6 (24 * i + p + r) else ν 16 r)) n ?_ (by omega) (fun k hk => ?_) ?_).trans ?_
  · rw [show (fun r => if r < 0 then ν 6 (24 * i + p + r) else ν 16 r) = ν 16 from by
      funext r
      rw [if_neg (Nat.not_lt_zero r)], mrow_id]
    rfl
  · show f_X8_copy_L113 (nI i) (nI p) (nI n) (nI k) (mrow ν 16 (fun r => if r < k then ν 6 (24 * i + p + r) else ν 16 r)) = _
    unfold f_X8_copy_L113
    rw [if_neg (nI_ge hk (by omega)), show ((24 : Int32) * nI i + nI p) + nI k = nI (24 * i + p + k) from by show (nI 24 * nI i + nI p) + nI k = _; rw [pk_mul, nI_add, nI_add], mrow_n (by omega), ldM_n (by omega) (by omega), bs, stM_n (by omega) (by omega), bs, mset_mrow, nI_1]
    have e := up_lt (f := fun r => ν 6 (24 * i + p + r)) (g := fun r => ν 16 r) (k := k)
    rw [e]
  · show f_X8_copy_L113 (nI i) (nI p) (nI n) (nI n) _ = _
    unfold f_X8_copy_L113
    exact if_pos (nI_le (Nat.le_refl _) (by omega))
  · unfold f_X8_copy_K113_147
    refine (bl (fun k => (nI k, mrow (mrow ν 16 (fun r => if r < n then ν 6 (24 * i + p + r) else ν 16 r)) 6 (fun r => if 24 * j + q ≤ r ∧ r < 24 * j + q + k then ν 6 (24 * i + p + (r - (24 * j + q))) else ν 6 r))) (mrow (mrow ν 16 (fun r => if r < n then ν 6 (24 * i + p + r) else ν 16 r)) 6 (fun r => if 24 * j + q ≤ r ∧ r < 24 * j + q + n then ν 6 (24 * i + p + (r - (24 * j + q))) else ν 6 r)) n ?_ (by omega) (fun k hk => ?_) ?_).trans rfl
    · rw [show (fun r => if 24 * j + q ≤ r ∧ r < 24 * j + q + 0 then ν 6 (24 * i + p + (r - (24 * j + q))) else ν 6 r) = (mrow ν 16 (fun r => if r < n then ν 6 (24 * i + p + r) else ν 16 r)) 6 from by
        funext r
        rw [if_neg (by omega), mrow_n (by omega)], mrow_id]
      rfl
    · show f_X8_copy_L150 (nI j) (nI q) (nI n) (nI k) (mrow (mrow ν 16 (fun r => if r < n then ν 6 (24 * i + p + r) else ν 16 r)) 6 (fun r => if 24 * j + q ≤ r ∧ r < 24 * j + q + k then ν 6 (24 * i + p + (r - (24 * j + q))) else ν 6 r)) = _
      unfold f_X8_copy_L150
      rw [if_neg (nI_ge hk (by omega)), show ((24 : Int32) * nI j + nI q) + nI k = nI (24 * j + q + k) from by show (nI 24 * nI j + nI q) + nI k = _; rw [pk_mul, nI_add, nI_add], mrow_n (i := 6) (j := 16) (by omega), mrow_s, ldM_n (by omega) (by omega), bs, stM_n (by omega) (by omega), bs, mset_mrow, nI_1, if_pos hk]
      congr 4
      funext r
      by_cases e : r = 24 * j + q + k
      · rw [e, pk_us, if_pos (by omega)]
        congr 1
        omega
      · rw [pk_un e]
        by_cases c : 24 * j + q ≤ r ∧ r < 24 * j + q + k
        · rw [if_pos c, if_pos (by omega)]
        · rw [if_neg c, if_neg (by omega)]
    · show f_X8_copy_L150 (nI j) (nI q) (nI n) (nI n) _ = _
      unfold f_X8_copy_L150
      exact if_pos (nI_le (Nat.le_refl _) (by omega))
theorem Step_31 : Step Rel C7_31 C8_31 := by
  intro a μ ν hR
  have hS := hR.2.2.1
  unfold C7_31 C8_31 f_X7_copy f_X8_copy f_X4_isMissing
  simp only [noSheet_C, sheet_M, bs, i01, i10]
  by_cases h1 : 0 ≤ (a 1).toInt ∧ (a 1).toInt ≤ 3
  · by_cases h2 : 0 ≤ (a 3).toInt ∧ (a 3).toInt ≤ 3
    · obtain ⟨i, hi, e1⟩ := upto (n := 3) h1 rfl
      obtain ⟨j, hj, e3⟩ := upto (n := 3) h2 rfl
      obtain ⟨g1, g2, g3, g4⟩ := hS i (by omega)
      obtain ⟨z, hz, ez⟩ := szz g4
      obtain ⟨f1, f2, f3, f4⟩ := hS j (by omega)
      obtain ⟨y, hy, ey⟩ := szz f4
      simp only [if_pos h1, if_pos h2]
      rw [e1, e3, rdM_n (by omega) (by omega), bs, rdM_n (by omega) (by omega), bs]
      simp only [ldM_n (show i < 4 by omega) (show 4 < 2 ^ 31 by omega), ldM_n (show j < 4 by omega) (show 4 < 2 ^ 31 by omega), bs, g1, f1, ez, ey, gtc _ _ hz, lec _ _ hy]
      rcases srt g4 with es | es
      · rw [es]
        exact ⟨-1000000011, μ, ν, rfl, rfl, hR⟩
      · have n1 : ¬ ν 4 i = -1 := by rcases es with es | es <;> rw [es] <;> decide
        have p0 : ¬ ν 4 i < 0 := by rcases es with es | es <;> rw [es] <;> decide
        rw [if_neg n1, bs, if_pos rfl, if_neg p0]
        rcases srt f4 with et | et
        · rw [et]
          exact ⟨-1000000011, μ, ν, rfl, rfl, hR⟩
        · have n2 : ¬ ν 4 j = -1 := by rcases et with et | et <;> rw [et] <;> decide
          have p2 : 0 ≤ ν 4 j := by rcases et with et | et <;> rw [et] <;> decide
          rw [if_neg n2, bs, if_pos rfl, if_pos p2]
          by_cases hs : ν 4 i = ν 4 j
          · rw [if_pos hs, if_pos hs, lacks_C (g2.trans ez) hz, bs, i01, lacks_C (f2.trans ey) hy, bs, i01]
            have e0 : (0 : Int32).toInt = 0 := rfl
            have neg : ∀ x : Int32, x < 0 ↔ ¬ 0 ≤ x.toInt := fun x => by rw [Int32.lt_iff_toInt_lt, e0]; omega
            simp only [neg]
            by_cases c1 : 0 ≤ (a 2).toInt
            · by_cases c2 : 0 ≤ (a 4).toInt
              · by_cases c3 : 0 ≤ (a 5).toInt
                · by_cases c4 : (a 2).toInt + (a 5).toInt ≤ (z : Int)
                  · by_cases c5 : (a 4).toInt + (a 5).toInt ≤ (y : Int)
                    · obtain ⟨p, hp, ep⟩ := upto (x := a 2) (n := 24) ⟨c1, by omega⟩ rfl
                      obtain ⟨q, hq, eq⟩ := upto (x := a 4) (n := 24) ⟨c2, by omega⟩ rfl
                      obtain ⟨n, hn, en⟩ := upto (x := a 5) (n := 24) ⟨c3, by omega⟩ rfl
                      rw [if_pos ⟨c1, c3, c4⟩, if_pos ⟨c2, c3, c5⟩, if_neg (fun w => w c1), if_neg (fun w => w c2), if_neg (fun w => w c3), if_neg (by omega), if_pos c5]
                      rw [ep, en, nI_toInt (by omega), nI_toInt (by omega)] at c4
                      rw [eq, en, nI_toInt (by omega), nI_toInt (by omega)] at c5
                      have cp : cpM μ (42 + 2 * i + 1) 24 (nI p) (42 + 2 * j + 1) 24 (nI q) (nI n) = some (mrow μ (42 + 2 * j + 1) (va_cpy (μ (42 + 2 * i + 1)) (μ (42 + 2 * j + 1)) p q n)) := by
                        unfold cpM
                        rw [nI_clamp (by omega), nI_clamp (by omega), nI_clamp (by omega), if_neg]
                        intro w
                        rcases w with w | w | w | w | w
                        · exact nI_pos (by omega) w
                        · exact nI_pos (by omega) w
                        · exact nI_pos (by omega) w
                        · omega
                        · omega
                      rw [ep, eq, en, cp, bs, copyM ν (by omega) (by omega) (by omega) (by omega)]
                      exact ⟨nI n, _, _, rfl, rfl, hR.sheets (fun l hl => mrow_n (by omega)) (fun l l1 l2 l3 l4 => by rw [mrow_n l3, mrow_n l4]) (S1_copy hS (by omega) (by omega) (by omega) (by omega) hs _)⟩
                    · rw [if_pos ⟨c1, c3, c4⟩, if_neg (fun w => c5 w.2.2), if_neg (fun w => w c1), if_neg (fun w => w c2), if_neg (fun w => w c3), if_neg (by omega), if_neg c5]
                      exact ⟨-1000000013, μ, ν, rfl, rfl, hR⟩
                  · rw [if_neg (fun w => c4 w.2.2), if_neg (fun w => w c1), if_neg (fun w => w c2), if_neg (fun w => w c3), if_pos (by omega)]
                    exact ⟨-1000000013, μ, ν, rfl, rfl, hR⟩
                · rw [if_neg (fun w => c3 w.2.1), if_neg (fun w => w c1), if_neg (fun w => w c2), if_pos c3]
                  exact ⟨-1000000013, μ, ν, rfl, rfl, hR⟩
              · by_cases c6 : 0 ≤ (a 2).toInt ∧ 0 ≤ (a 5).toInt ∧ (a 2).toInt + (a 5).toInt ≤ (z : Int)
                · rw [if_pos c6, if_neg (fun w => c2 w.1), if_neg (fun w => w c1), if_pos c2]
                  exact ⟨-1000000013, μ, ν, rfl, rfl, hR⟩
                · rw [if_neg c6, if_neg (fun w => w c1), if_pos c2]
                  exact ⟨-1000000013, μ, ν, rfl, rfl, hR⟩
            · rw [if_neg (fun w => c1 w.1), if_pos c1]
              exact ⟨-1000000013, μ, ν, rfl, rfl, hR⟩
          · rw [if_neg hs, if_neg hs]
            exact ⟨-1000000012, μ, ν, rfl, rfl, hR⟩
    · simp only [if_pos h1, if_neg h2]
      exact ⟨-1000000001, μ, ν, rfl, rfl, hR⟩
  · simp only [if_neg h1]
    exact ⟨-1000000001, μ, ν, rfl, rfl, hR⟩
