/-! MARK, READS -/
theorem lpQ {V X : Type} {b1 b2 : V → Option (V ⊕ X)} (st : Nat → V) (N : Nat) (h : ∀ k, k ≤ N → b1 (st k) = b2 (st k) ∧ ((∃ x, b1 (st k) = some (.inr x)) ∨ (k < N ∧ b1 (st k) = some (.inl (st (k + 1)))))) {fuel : Nat} (hf : N < fuel) : ∃ x, lpF b1 fuel (st 0) = some x ∧ lpF b2 fuel (st 0) = some x := by
  have g : ∀ m k fuel, k + m = N → m < fuel → ∃ x, lpF b1 fuel (st k) = some x ∧ lpF b2 fuel (st k) = some x := by
    intro m
    induction m with
    | zero =>
      intro k fuel hk hf
      cases fuel with
      | zero => omega
      | succ fuel =>
        obtain ⟨e, h2⟩ := h k (by omega)
        rcases h2 with ⟨x, h2⟩ | ⟨h2, -⟩
        · exact ⟨x, by rw [lpF, h2], by rw [lpF, ← e, h2]⟩
        · omega
    | succ m ih =>
      intro k fuel hk hf
      cases fuel with
      | zero => omega
      | succ fuel =>
        obtain ⟨e, h2⟩ := h k (by omega)
        rcases h2 with ⟨x, h2⟩ | ⟨h2, h3⟩
        · exact ⟨x, by rw [lpF, h2], by rw [lpF, ← e, h2]⟩
        · obtain ⟨x, i1, i2⟩ := ih (k + 1) fuel (by omega) (by omega)
          exact ⟨x, by rw [lpF, h3]; exact i1, by rw [lpF, ← e, h3]; exact i2⟩
  exact g N 0 fuel (by omega) hf
theorem S1_put {μ ν : Mem} (h : RSheet μ ν) {i k : Nat} (hi : i < 4) (hk : k < 24) {v : Int32} (hv : (v = -1000000005 ∧ ν 4 i = 1) ∨ (-99999 ≤ v.toInt ∧ v.toInt ≤ 99999)) : RSheet (mset μ (42 + 2 * i + 1) k v) (mset ν 6 (24 * i + k) v) := by
  intro l hl
  by_cases e : l = i
  · subst e
    obtain ⟨g1, g2, g3, g4, g5⟩ := h l hl
    unfold SV
    rw [mset_n (j := 42 + 2 * l) (by omega), mset_n (j := 4) (by omega), mset_n (j := 5) (by omega)]
    refine ⟨g1, g2, fun j hj => ?_, g4, fun j hj => ?_⟩
    · by_cases c : j = k
      · rw [c, mset_ss, mset_ss]
      · rw [mset_sn c, mset_sn (by omega)]
        exact g3 j hj
    · dsimp only
      by_cases c : j = k
      · rw [c, mset_ss]
        exact hv
      · rw [mset_sn (by omega)]
        exact g5 j hj
  · refine S1.of (h l hl) ?_ ?_ ?_ ?_ (fun j hj => ?_)
    · rw [mset_n (by omega)]
    · rw [mset_n (by omega)]
    · rw [mset_n (by omega)]
    · rw [mset_n (by omega)]
    · rw [mset_sn (by omega)]
theorem hasNo_C {μ : Mem} {b z : Nat} (h : μ b 2 = nI z) (hz : z ≤ 24) (x : Int32) : f_X4_hasNo b x μ = some (if 0 ≤ x.toInt ∧ x.toInt ≤ (z : Int) - 1 then 0 else 1) := by
  unfold f_X4_hasNo
  rw [h]
  have e0 : (0 : Int32).toInt = 0 := rfl
  have ez : (nI z).toInt = (z : Int) := nI_toInt (by omega)
  by_cases h1 : x < 0
  · rw [if_pos h1, if_neg (fun w => by have := Int32.lt_iff_toInt_lt.mp h1; omega)]
  · rw [if_neg h1]
    have a1 : 0 ≤ x.toInt := Int.not_lt.mp (fun w => h1 (Int32.lt_iff_toInt_lt.mpr w))
    by_cases h2 : x < nI z
    · rw [if_pos h2, if_pos ⟨a1, by have := Int32.lt_iff_toInt_lt.mp h2; omega⟩]
    · rw [if_neg h2, if_neg (fun w => h2 (Int32.lt_iff_toInt_lt.mpr (by omega)))]
theorem isNum_C {μ : Mem} {b z k : Nat} (h : μ b 2 = nI z) (hz : z ≤ 24) (hk : k < z) : f_X4_isNumber b (nI k) μ = some (if μ (b + 1) k = -1000000005 then 0 else 1) := by
  unfold f_X4_isNumber
  rw [hasNo_C h hz, bs, i01, nI_toInt (by omega), if_pos ⟨by omega, by omega⟩, ldM_n (by omega) (by omega), bs]
  by_cases c : μ (b + 1) k = -1000000005
  · rw [if_pos c, if_pos c]
  · rw [if_neg c, if_neg c]
theorem sh16 (x : Int32) : (x <<< ((16 : Int32) &&& 31)) >>> ((16 : Int32) &&& 31) = x.toInt16.toInt32 ∧ -32768 ≤ x.toInt16.toInt32.toInt ∧ x.toInt16.toInt32.toInt ≤ 32767 := by
  have h1 := pk_shl x ((16 : Int32) &&& 31) 16 (by decide)
  have h2 := pk_shr (x <<< ((16 : Int32) &&& 31)) ((16 : Int32) &&& 31) 16 (by decide)
  have l := x.toBitVec.isLt
  have e3 : x.toInt16.toInt32.toInt = x.toInt.bmod (2 ^ 16) := by rw [Int16.toInt_toInt32, Int32.toInt_toInt16]
  rw [toI (x <<< ((16 : Int32) &&& 31)), Int.shiftRight_eq_div_pow, h1] at h2
  rw [Int.bmod_def, toI x] at e3
  constructor
  · apply Int32.toInt_inj.mp
    rw [h2, e3]
    split <;> split <;> split <;> omega
  · rw [e3]
    constructor
    · split <;> split <;> omega
    · split <;> split <;> omega
theorem szz {s z : Int32} {row : Nat → Int32} (h : SV s z row) : ∃ k, k ≤ 24 ∧ z = nI k := by
  rcases h.1 with ⟨-, h⟩ | ⟨-, h⟩
  · exact ⟨0, by omega, h⟩
  · exact h
theorem srt {s z : Int32} {row : Nat → Int32} (h : SV s z row) : s = -1 ∨ s = 0 ∨ s = 1 := by
  rcases h.1 with ⟨h, -⟩ | ⟨h, -⟩
  · exact Or.inl h
  · exact Or.inr h
theorem inN (x : Int32) {z : Nat} (hz : z ≤ 1000) : f_X8_isIn x.toInt64 0 ((nI z - 1).toInt64) = some (if 0 ≤ x.toInt ∧ x.toInt ≤ (z : Int) - 1 then 1 else 0) := isIn_L x rfl (by rw [Int32.toInt_toInt64, n1_toInt (by omega)])
theorem Step_28 : Step Rel C7_28 C8_28 := by
  intro a μ ν hR
  have hS := hR.2.2.1
  unfold C7_28 C8_28 f_X7_mark f_X8_mark f_X8_mark_J63 f_X8_mark_J96 f_X7_mark_J92 f_X4_isMissing
  simp only [noSheet_C, sheet_M, om99999_99999, nm99999_99999, bs, i01, i10]
  by_cases h1 : 0 ≤ (a 1).toInt ∧ (a 1).toInt ≤ 3
  · obtain ⟨i, hi, e1⟩ := upto (n := 3) h1 rfl
    obtain ⟨g1, g2, g3, g4⟩ := hS i (by omega)
    obtain ⟨z, hz, ez⟩ := szz g4
    simp only [if_pos h1]
    rw [e1, rdM_n (by omega) (by omega), bs]
    simp only [ldM_n (show i < 4 by omega) (show 4 < 2 ^ 31 by omega), bs, g1, ez, inN (a 2) (show z ≤ 1000 by omega), i10]
    rcases srt g4 with es | es
    · rw [es]
      exact ⟨-1000000011, μ, ν, rfl, rfl, hR⟩
    · have n1 : ¬ ν 4 i = -1 := by rcases es with es | es <;> rw [es] <;> decide
      have p0 : 0 ≤ ν 4 i := by rcases es with es | es <;> rw [es] <;> decide
      rw [if_neg n1, bs, if_pos rfl, if_pos p0, hasNo_C (g2.trans ez) hz, bs, i01]
      by_cases h2 : 0 ≤ (a 2).toInt ∧ (a 2).toInt ≤ (z : Int) - 1
      · obtain ⟨k, hk, e2⟩ := isK_n (n := z) h2
        rw [if_pos h2, if_pos h2, e2]
        have put : ∀ v, ((v = -1000000005 ∧ ν 4 i = 1) ∨ (-99999 ≤ v.toInt ∧ v.toInt ≤ 99999)) → stM μ (42 + 2 * i + 1) 24 (nI k) v = some (mset μ (42 + 2 * i + 1) k v) ∧ stM ν 6 96 (24 * nI i + nI k) v = some (mset ν 6 (24 * i + k) v) ∧ Rel (mset μ (42 + 2 * i + 1) k v) (mset ν 6 (24 * i + k) v) := by
          intro v hv
          refine ⟨stM_n (by omega) (by omega), ?_, hR.sheets (fun l hl => mset_n (by omega)) (fun l l1 l2 l3 l4 => mset_n l3) (S1_put hS (by omega) (by omega) hv)⟩
          rw [show (24 : Int32) * nI i + nI k = nI (24 * i + k) from by show nI 24 * nI i + nI k = _; rw [pk_mul, nI_add], stM_n (by omega) (by omega)]
        rcases es with es | es
        · rw [es]
          simp only [if_true, show ¬ (0 : Int32) = 1 by decide, if_false]
          by_cases hE : a 3 = -1000000005
          · rw [if_pos hE, if_pos hE]
            exact ⟨-1000000012, μ, ν, rfl, rfl, hR⟩
          · obtain ⟨s1, s2, s3⟩ := sh16 (a 3)
            obtain ⟨p1, p2, p3⟩ := put (a 3).toInt16.toInt32 (Or.inr ⟨by omega, by omega⟩)
            rw [if_neg hE, if_neg hE, p1, bs, s1, p2, bs]
            exact ⟨1, _, _, rfl, rfl, p3⟩
        · rw [es]
          simp only [if_true, show ¬ (1 : Int32) = 0 by decide, if_false]
          by_cases hE : a 3 = -1000000005
          · obtain ⟨p1, p2, p3⟩ := put (a 3) (Or.inl ⟨hE, es⟩)
            rw [if_pos hE, if_pos hE, p1, bs, p2, bs]
            exact ⟨1, _, _, rfl, rfl, p3⟩
          · rw [if_neg hE, if_neg hE]
            by_cases h3 : -99999 ≤ (a 3).toInt ∧ (a 3).toInt ≤ 99999
            · obtain ⟨p1, p2, p3⟩ := put (a 3) (Or.inr h3)
              rw [if_pos h3, if_pos h3, p1, bs, p2, bs]
              exact ⟨1, _, _, rfl, rfl, p3⟩
            · rw [if_neg h3, if_neg h3]
              exact ⟨-1000000001, μ, ν, rfl, rfl, hR⟩
      · rw [if_neg h2, if_neg h2]
        exact ⟨-1000000013, μ, ν, rfl, rfl, hR⟩
  · simp only [if_neg h1]
    exact ⟨-1000000001, μ, ν, rfl, rfl, hR⟩
