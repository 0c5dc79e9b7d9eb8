/-! SHEETS -/
theorem Rel.sheets {μ ν μ' ν' : Mem} (h : Rel μ ν) (hc : ∀ i, ¬ (42 ≤ i ∧ i ≤ 49) → μ' i = μ i) (hm : ∀ i, i ≠ 4 → i ≠ 5 → i ≠ 6 → i ≠ 16 → ν' i = ν i) (hs : RSheet μ' ν') : Rel μ' ν' := by
  obtain ⟨h1, h2, -, k4, k5⟩ := h
  exact ⟨h1.of (by rw [hc 0 (by omega)]) (fun i i1 i2 i3 => hc i (by omega)) (by rw [hm 0 (by omega) (by omega) (by omega) (by omega)]) (hm 1 (by omega) (by omega) (by omega) (by omega)) (hm 2 (by omega) (by omega) (by omega) (by omega)),
    h2.of (by rw [hc 38 (by omega)]) (hc 39 (by omega)) (by rw [hm 0 (by omega) (by omega) (by omega) (by omega)]) (hm 13 (by omega) (by omega) (by omega) (by omega)), hs,
    k4.of (fun i i1 i2 => hc i (by omega)) (fun i i1 i2 => hm i (by omega) (by omega) (by omega) (by omega)),
    k5.of (by rw [hc 0 (by omega)]) (hc 66 (by omega)) (by rw [hm 0 (by omega) (by omega) (by omega) (by omega)]) (hm 17 (by omega) (by omega) (by omega) (by omega))⟩
def S1 (μ ν : Mem) (i : Nat) : Prop := μ (42 + 2 * i) 1 = ν 4 i ∧ μ (42 + 2 * i) 2 = ν 5 i ∧ (∀ j, j < 24 → μ (42 + 2 * i + 1) j = ν 6 (24 * i + j)) ∧ SV (ν 4 i) (ν 5 i) (fun j => ν 6 (24 * i + j))
theorem S1.of {μ ν μ' ν' : Mem} {i : Nat} (h : S1 μ ν i) (a : μ' (42 + 2 * i) = μ (42 + 2 * i)) (b : μ' (42 + 2 * i + 1) = μ (42 + 2 * i + 1)) (c : ν' 4 i = ν 4 i) (d : ν' 5 i = ν 5 i) (e : ∀ j, j < 24 → ν' 6 (24 * i + j) = ν 6 (24 * i + j)) : S1 μ' ν' i := by
  obtain ⟨h1, h2, h3, h4, h5⟩ := h
  unfold S1 SV
  rw [a, b, c, d]
  refine ⟨h1, h2, fun j hj => by rw [e j hj]; exact h3 j hj, h4, fun j hj => ?_⟩
  show (ν' 6 (24 * i + j) = -1000000005 ∧ ν 4 i = 1) ∨ (-99999 ≤ (ν' 6 (24 * i + j)).toInt ∧ (ν' 6 (24 * i + j)).toInt ≤ 99999)
  rw [e j hj]
  exact h5 j hj
theorem noSheet_C (x : Int32) : f_X7_isNoSheet x = some (if 0 ≤ x.toInt ∧ x.toInt ≤ 3 then 0 else 1) := by
  unfold f_X7_isNoSheet
  rw [o0_3, bs, zM_if (Or.inl rfl) (Or.inr rfl)]
theorem sheet_M (x : Int32) : f_X8_isSheet x = some (if 0 ≤ x.toInt ∧ x.toInt ≤ 3 then 1 else 0) := by
  unfold f_X8_isSheet
  rw [n0_3, bs, zM_if (Or.inr rfl) (Or.inl rfl)]
theorem begin_C (μ : Mem) (b : Nat) (s z : Int32) : f_X4_begin b s z μ = some (mrow (mset (mset μ b 1 s) b 2 z) (b + 1) (fun j => if j < 24 then 0 else μ (b + 1) j)) := by
  unfold f_X4_begin
  rw [nms, nms]
  refine (bl (fun k => (nI k, mrow (mset (mset μ b 1 s) b 2 z) (b + 1) (fun j => if j < k then 0 else μ (b + 1) j))) _ 24 ?_ (by omega) (fun k hk => ?_) ?_).trans rfl
  · rw [show (fun j => if j < 0 then 0 else μ (b + 1) j) = (mset (mset μ b 1 s) b 2 z) (b + 1) from by
      funext j
      rw [if_neg (Nat.not_lt_zero j), mset_n (by omega), mset_n (by omega)], mrow_id]
    rfl
  · show f_X4_begin_L12 b (nI k) _ = _
    unfold f_X4_begin_L12
    rw [if_neg (show ¬ (24 : Int32) ≤ nI k from nI_ge (b := 24) hk (by omega)), stM_n (by omega) (by omega), bs, mset_mrow, nI_1]
    have e := up_lt (f := fun _ => (0 : Int32)) (g := fun j => μ (b + 1) j) (k := k)
    rw [e]
  · exact if_pos (show (24 : Int32) ≤ nI 24 by decide)
theorem cl_M (ν : Mem) {i : Nat} (hi : i < 4) (z : Int32) : f_X8_sheet_J65 (nI i) ν z = some (z, mrow (mset ν 5 i z) 6 (fun q => if 24 * i ≤ q ∧ q < 24 * i + 24 then 0 else ν 6 q)) := by
  unfold f_X8_sheet_J65
  rw [stM_n (by omega) (by omega), bs]
  refine (bl (fun k => (nI k, mrow (mset ν 5 i z) 6 (fun q => if 24 * i ≤ q ∧ q < 24 * i + k then 0 else ν 6 q))) (mrow (mset ν 5 i z) 6 (fun q => if 24 * i ≤ q ∧ q < 24 * i + 24 then 0 else ν 6 q)) 24 ?_ (by omega) (fun k hk => ?_) ?_).trans ?_
  · rw [show (fun q => if 24 * i ≤ q ∧ q < 24 * i + 0 then 0 else ν 6 q) = (mset ν 5 i z) 6 from by
      funext j
      rw [if_neg (by omega), mset_n (by omega)], mrow_id]
    rfl
  · show f_X8_sheet_L69 (nI i) (nI k) _ = _
    unfold f_X8_sheet_L69
    rw [if_neg (show ¬ (24 : Int32) ≤ nI k from nI_ge (b := 24) hk (by omega)), show (24 : Int32) * nI i + nI k = nI (24 * i + k) from by show nI 24 * nI i + nI k = _; rw [pk_mul, nI_add], stM_n (by omega) (by omega), bs, mset_mrow, nI_1]
    congr 4
    funext q
    by_cases e : q = 24 * i + k
    · rw [e, pk_us, if_pos (by omega)]
    · rw [pk_un e]
      by_cases c : 24 * i ≤ q ∧ q < 24 * i + k
      · rw [if_pos c, if_pos (by omega)]
      · rw [if_neg c, if_neg (by omega)]
  · exact if_pos (show (24 : Int32) ≤ nI 24 by decide)
  · unfold f_X8_sheet_K69_95
    rw [mrow_n (by omega), ldM_n (by omega) (by omega), bs, mset_ss]
theorem S1_new {μ ν : Mem} (h : RSheet μ ν) {i : Nat} (hi : i < 4) {s z : Int32} (hsz : (s = -1 ∧ z = 0) ∨ ((s = 0 ∨ s = 1) ∧ ∃ k, k ≤ 24 ∧ z = nI k)) : RSheet (mrow (mset (mset μ (42 + 2 * i) 1 s) (42 + 2 * i) 2 z) (42 + 2 * i + 1) (fun j => if j < 24 then 0 else μ (42 + 2 * i + 1) j)) (mrow (mset (mset ν 4 i s) 5 i z) 6 (fun q => if 24 * i ≤ q ∧ q < 24 * i + 24 then 0 else ν 6 q)) := by
  intro k hk
  by_cases e : k = i
  · subst e
    have e4 : mrow (mset (mset ν 4 k s) 5 k z) 6 (fun q => if 24 * k ≤ q ∧ q < 24 * k + 24 then 0 else ν 6 q) 4 k = s := by rw [mrow_n (by omega), mset_n (by omega), mset_ss]
    have e5 : mrow (mset (mset ν 4 k s) 5 k z) 6 (fun q => if 24 * k ≤ q ∧ q < 24 * k + 24 then 0 else ν 6 q) 5 k = z := by rw [mrow_n (by omega), mset_ss]
    have e6 : ∀ j, j < 24 → mrow (mset (mset ν 4 k s) 5 k z) 6 (fun q => if 24 * k ≤ q ∧ q < 24 * k + 24 then 0 else ν 6 q) 6 (24 * k + j) = 0 := fun j hj => by rw [mrow_s, if_pos (by omega)]
    refine ⟨?_, ?_, fun j hj => ?_, ?_, fun j hj => Or.inr ?_⟩
    · rw [e4, mrow_n (by omega), mset_sn (by omega), mset_ss]
    · rw [e5, mrow_n (by omega), mset_ss]
    · rw [e6 j hj, mrow_s, if_pos hj]
    · rw [e4, e5]; exact hsz
    · dsimp only
      rw [e6 j hj]
      decide
  · refine S1.of (h k hk) ?_ ?_ ?_ ?_ (fun j hj => ?_)
    · rw [mrow_n (by omega), mset_n (by omega), mset_n (by omega)]
    · rw [mrow_n (by omega), mset_n (by omega), mset_n (by omega)]
    · rw [mrow_n (by omega), mset_n (by omega), mset_sn e]
    · rw [mrow_n (by omega), mset_sn e, mset_n (by omega)]
    · rw [mrow_s, if_neg (by omega)]
theorem Step_27 : Step Rel C7_27 C8_27 := by
  intro a μ ν hR
  unfold C7_27 C8_27 f_X7_sheet f_X8_sheet f_X8_sheet_J32 f_X8_sheet_J44
  simp only [noSheet_C, sheet_M, om1_1, nm1_1, bs, i01, i10]
  by_cases h1 : 0 ≤ (a 1).toInt ∧ (a 1).toInt ≤ 3
  · obtain ⟨i, hi, e1⟩ := upto (n := 3) h1 rfl
    by_cases h2 : -1 ≤ (a 2).toInt ∧ (a 2).toInt ≤ 1
    · simp only [if_pos h1, if_pos h2]
      rw [e1, rdM_n (by omega) (by omega), bs, bs, stM_n (by omega) (by omega), bs]
      simp only [cl_M _ (show i < 4 by omega), begin_C, bs]
      have fin : ∀ s z, ((s = -1 ∧ z = 0) ∨ ((s = 0 ∨ s = 1) ∧ ∃ k, k ≤ 24 ∧ z = nI k)) → Rel (mrow (mset (mset μ (42 + 2 * i) 1 s) (42 + 2 * i) 2 z) (42 + 2 * i + 1) (fun j => if j < 24 then 0 else μ (42 + 2 * i + 1) j)) (mrow (mset (mset ν 4 i s) 5 i z) 6 (fun q => if 24 * i ≤ q ∧ q < 24 * i + 24 then 0 else mset ν 4 i s 6 q)) := by
        intro s z hsz
        rw [mset_n (i := 4) (j := 6) (by omega)]
        exact hR.sheets (fun k hk => by rw [mrow_n (by omega), mset_n (by omega), mset_n (by omega)]) (fun k k1 k2 k3 k4 => by rw [mrow_n k3, mset_n k2, mset_n k1]) (S1_new hR.2.2.1 (by omega) hsz)
      by_cases m1 : a 2 = -1
      · rw [if_pos m1, if_pos (show a 2 < 0 by rw [m1]; decide), if_pos (show a 2 < 0 by rw [m1]; decide), if_neg (show ¬ 0 ≤ a 2 by rw [m1]; decide), m1]
        exact ⟨0, _, _, rfl, rfl, fin (-1) 0 (Or.inl ⟨rfl, rfl⟩)⟩
      · have p : (a 2).toInt = 0 ∨ (a 2).toInt = 1 := by
          rcases (by omega : (a 2).toInt = -1 ∨ (a 2).toInt = 0 ∨ (a 2).toInt = 1) with z | z
          · exact absurd (Int32.toInt_inj.mp (z.trans (by decide : (-1 : Int) = (-1 : Int32).toInt))) m1
          · exact z
        have hn : ¬ a 2 < 0 := fun z => by have := Int32.lt_iff_toInt_lt.mp z; have e : (0 : Int32).toInt = 0 := rfl; omega
        have hp : 0 ≤ a 2 := Int32.le_iff_toInt_le.mpr (by have e : (0 : Int32).toInt = 0 := rfl; omega)
        have hs01 : a 2 = 0 ∨ a 2 = 1 := by
          rcases p with z | z
          · exact Or.inl (Int32.toInt_inj.mp (z.trans (by decide : (0 : Int) = (0 : Int32).toInt)))
          · exact Or.inr (Int32.toInt_inj.mp (z.trans (by decide : (1 : Int) = (1 : Int32).toInt)))
        rw [if_neg m1, if_neg hn, if_neg hn, if_pos hp]
        by_cases h4 : a 3 ≤ 24
        · by_cases h5 : 0 ≤ a 3
          · rw [if_pos h4, if_pos h4, if_pos h5, if_pos h5]
            have g1 := Int32.le_iff_toInt_le.mp h4
            have g2 := Int32.le_iff_toInt_le.mp h5
            have e24 : (24 : Int32).toInt = 24 := rfl
            have e0 : (0 : Int32).toInt = 0 := rfl
            exact ⟨a 3, _, _, rfl, rfl, fin (a 2) (a 3) (Or.inr ⟨hs01, upto (n := 24) ⟨by omega, by rw [e24] at g1; exact g1⟩ rfl⟩)⟩
          · rw [if_pos h4, if_pos h4, if_neg h5, if_neg h5]
            exact ⟨-1000000014, μ, ν, rfl, rfl, hR⟩
        · rw [if_neg h4, if_neg h4]
          exact ⟨-1000000001, μ, ν, rfl, rfl, hR⟩
    · simp only [if_pos h1, if_neg h2]
      exact ⟨-1000000001, μ, ν, rfl, rfl, hR⟩
  · simp only [if_neg h1]
    exact ⟨-1000000001, μ, ν, rfl, rfl, hR⟩
