/-! POUR, COPY -/
def pourC (row : Nat → Int32) (m k : Nat) : Bool := if row k = -1000000005 then m.testBit k else decide (¬ row k ≤ 0)
def pourM (row : Nat → Int32) (m : Nat) : Nat → Nat
  | 0 => m
  | k + 1 => putM (pourM row m k) k (pourC row (pourM row m k) k)
def pourN (row : Nat → Int32) (m : Nat) : Nat → Nat
  | 0 => 0
  | k + 1 => pourN row m k + (if (pourM row m k).testBit k = pourC row (pourM row m k) k then 0 else 1)
theorem pourM_lt (row : Nat → Int32) {m n : Nat} (hm : m < 2 ^ n) : ∀ k, k ≤ n → pourM row m k < 2 ^ n
  | 0, _ => hm
  | k + 1, hk => putM_lt _ (pourM_lt row hm k (by omega)) (by omega)
theorem isFor_n (v : Int32) : f_X8_isFor v = some (nI (decide (¬ v ≤ 0)).toNat) := by
  unfold f_X8_isFor
  by_cases h : v ≤ 0
  · rw [if_pos h, decide_eq_false (fun z => z h)]
    rfl
  · rw [if_neg h, decide_eq_true h]
    rfl
theorem Step_29 : Step Rel C7_29 C8_29 := by
  intro a μ ν hR
  have hS := hR.2.2.1
  obtain ⟨t, hV, hY, hC, hM, K⟩ := hR.tw2
  have hn := hV.1
  unfold C7_29 C8_29 f_X7_pour f_X8_pour f_X4_isMissing
  simp only [noSheet_C, sheet_M, bs, i01, i10]
  by_cases h1 : 0 ≤ (a 1).toInt ∧ (a 1).toInt ≤ 3
  · obtain ⟨i, hi, e1⟩ := upto (n := 3) h1 rfl
    obtain ⟨g1, g2, g3, g4⟩ := hS i (by omega)
    obtain ⟨z, hz, ez⟩ := szz g4
    simp only [if_pos h1]
    rw [e1, rdM_n (by omega) (by omega), bs]
    simp only [ldM_n (show i < 4 by omega) (show 4 < 2 ^ 31 by omega), bs, g1]
    rcases srt g4 with es | es
    · rw [es]
      exact ⟨-1000000011, μ, ν, rfl, rfl, hR⟩
    · have n1 : ¬ ν 4 i = -1 := by rcases es with es | es <;> rw [es] <;> decide
      have p0 : 0 ≤ ν 4 i := by rcases es with es | es <;> rw [es] <;> decide
      rw [if_neg n1, bs, if_pos rfl, if_pos p0, hC.1, g2, ez]
      have hE : ∃ E, E ≤ tN t ∧ E ≤ z ∧ (E = tN t ∨ E = z) ∧ (if nI (tN t) < nI z then nI (tN t) else nI z) = nI E := by
        by_cases c : tN t < z
        · exact ⟨tN t, by omega, by omega, Or.inl rfl, if_pos (nI_lt c (by omega))⟩
        · exact ⟨z, by omega, by omega, Or.inr rfl, if_neg (nI_nlt (by omega) (by omega))⟩
      obtain ⟨E, k1, k2, k3, ke⟩ := hE
      rw [ke, nms]
      have hVk : ∀ k, k ≤ tN t → AV (setM t (pourM (fun j => ν 6 (24 * i + j)) (tM t) k)) := fun k hk => AV_M hV (pourM_lt _ hV.2.1 k hk)
      obtain ⟨x, c1, c2, c3, c4⟩ := lpE (body := fun v => f_X7_pour_L48 i (nI E) v.1 v.2.1 v.2.2) (fun k v => v.1 = nI (pourN (fun j => ν 6 (24 * i + j)) (tM t) k) ∧ v.2.1 = nI k ∧ AC (setM t (pourM (fun j => ν 6 (24 * i + j)) (tM t) k)) v.2.2 21 ∧ ∀ l, l ≠ 21 → v.2.2 l = μ l) (fun x => x.1 = nI (pourN (fun j => ν 6 (24 * i + j)) (tM t) E) ∧ AC (setM t (pourM (fun j => ν 6 (24 * i + j)) (tM t) E)) x.2 21 ∧ ∀ l, l ≠ 21 → x.2 l = μ l) E (fuel := 4000) (v := (0, 0, μ)) (by omega) ⟨rfl, rfl, hC, fun l _ => rfl⟩ (by
        intro k v hk ⟨q1, q2, q3, q4⟩
        have hb : (tM (setM t (pourM (fun j => ν 6 (24 * i + j)) (tM t) k))) = pourM (fun j => ν 6 (24 * i + j)) (tM t) k := rfl
        have hN : k < tN (setM t (pourM (fun j => ν 6 (24 * i + j)) (tM t) k)) := by show k < tN t; omega
        have mo := mindOf_C (hVk k (by omega)) q3 hN
        have fl := flip_C (hVk k (by omega)) q3 hN
        rw [hb] at mo fl
        have z2 : v.2.2 (42 + 2 * i) 2 = nI z := by rw [q4 _ (by omega), g2, ez]
        have z3 : v.2.2 (42 + 2 * i + 1) k = ν 6 (24 * i + k) := by rw [q4 _ (by omega), g3 k (by omega)]
        unfold f_X7_pour_L48
        rw [q1, q2, if_neg (nI_ge hk (by omega)), ldM_n (by omega) (by omega), bs, z3]
        unfold f_X7_pour_J70
        rw [isNum_C z2 hz (by omega), bs, i01, z3, bs, i01, mo]
        simp only [bs]
        unfold f_X7_pour_J101 f_X7_pour_J116
        rw [fl, bs, nI_1, nI_1]
        have eM : pourM (fun j => ν 6 (24 * i + j)) (tM t) (k + 1) = putM (pourM (fun j => ν 6 (24 * i + j)) (tM t) k) k (pourC (fun j => ν 6 (24 * i + j)) (pourM (fun j => ν 6 (24 * i + j)) (tM t) k) k) := rfl
        have eN : pourN (fun j => ν 6 (24 * i + j)) (tM t) (k + 1) = pourN (fun j => ν 6 (24 * i + j)) (tM t) k + (if (pourM (fun j => ν 6 (24 * i + j)) (tM t) k).testBit k = pourC (fun j => ν 6 (24 * i + j)) (pourM (fun j => ν 6 (24 * i + j)) (tM t) k) k then 0 else 1) := rfl
        rw [eM, eN]
        have stay : (pourM (fun j => ν 6 (24 * i + j)) (tM t) k).testBit k = pourC (fun j => ν 6 (24 * i + j)) (pourM (fun j => ν 6 (24 * i + j)) (tM t) k) k → ∃ v', (some (Sum.inl (nI (pourN (fun j => ν 6 (24 * i + j)) (tM t) k), nI (k + 1), v.2.2)) : Option ((Int32 × Int32 × Mem) ⊕ (Int32 × Mem))) = some (.inl v') ∧ v'.1 = nI (pourN (fun j => ν 6 (24 * i + j)) (tM t) k + (if (pourM (fun j => ν 6 (24 * i + j)) (tM t) k).testBit k = pourC (fun j => ν 6 (24 * i + j)) (pourM (fun j => ν 6 (24 * i + j)) (tM t) k) k then 0 else 1)) ∧ v'.2.1 = nI (k + 1) ∧ AC (setM t (putM (pourM (fun j => ν 6 (24 * i + j)) (tM t) k) k (pourC (fun j => ν 6 (24 * i + j)) (pourM (fun j => ν 6 (24 * i + j)) (tM t) k) k))) v'.2.2 21 ∧ ∀ l, l ≠ 21 → v'.2.2 l = μ l := fun hs => ⟨_, rfl, by rw [if_pos hs]; rfl, rfl, by rw [show putM (pourM (fun j => ν 6 (24 * i + j)) (tM t) k) k (pourC (fun j => ν 6 (24 * i + j)) (pourM (fun j => ν 6 (24 * i + j)) (tM t) k) k) = pourM (fun j => ν 6 (24 * i + j)) (tM t) k from if_pos hs]; exact q3, q4⟩
        have move : ¬ (pourM (fun j => ν 6 (24 * i + j)) (tM t) k).testBit k = pourC (fun j => ν 6 (24 * i + j)) (pourM (fun j => ν 6 (24 * i + j)) (tM t) k) k → ∃ v', (some (Sum.inl (nI (pourN (fun j => ν 6 (24 * i + j)) (tM t) k + 1), nI (k + 1), mset v.2.2 21 6 (nI (pourM (fun j => ν 6 (24 * i + j)) (tM t) k ^^^ 2 ^ k)))) : Option ((Int32 × Int32 × Mem) ⊕ (Int32 × Mem))) = some (.inl v') ∧ v'.1 = nI (pourN (fun j => ν 6 (24 * i + j)) (tM t) k + (if (pourM (fun j => ν 6 (24 * i + j)) (tM t) k).testBit k = pourC (fun j => ν 6 (24 * i + j)) (pourM (fun j => ν 6 (24 * i + j)) (tM t) k) k then 0 else 1)) ∧ v'.2.1 = nI (k + 1) ∧ AC (setM t (putM (pourM (fun j => ν 6 (24 * i + j)) (tM t) k) k (pourC (fun j => ν 6 (24 * i + j)) (pourM (fun j => ν 6 (24 * i + j)) (tM t) k) k))) v'.2.2 21 ∧ ∀ l, l ≠ 21 → v'.2.2 l = μ l := fun hs => ⟨_, rfl, by rw [if_neg hs], rfl, by
          rw [show putM (pourM (fun j => ν 6 (24 * i + j)) (tM t) k) k (pourC (fun j => ν 6 (24 * i + j)) (pourM (fun j => ν 6 (24 * i + j)) (tM t) k) k) = pourM (fun j => ν 6 (24 * i + j)) (tM t) k ^^^ 2 ^ k from if_neg hs]
          exact AC_M q3, fun l hl => (mset_n hl).trans (q4 l hl)⟩
        have eC : pourC (fun j => ν 6 (24 * i + j)) (pourM (fun j => ν 6 (24 * i + j)) (tM t) k) k = if ν 6 (24 * i + k) = -1000000005 then (pourM (fun j => ν 6 (24 * i + j)) (tM t) k).testBit k else decide (¬ ν 6 (24 * i + k) ≤ 0) := rfl
        by_cases d1 : ν 6 (24 * i + k) = -1000000005
        · have hs : (pourM (fun j => ν 6 (24 * i + j)) (tM t) k).testBit k = pourC (fun j => ν 6 (24 * i + j)) (pourM (fun j => ν 6 (24 * i + j)) (tM t) k) k := by rw [eC, if_pos d1]
          have r := stay hs
          by_cases d2 : ν 6 (24 * i + k) ≤ 0
          · simp only [if_pos d1, if_pos d2]
            exact r
          · simp only [if_pos d1, if_neg d2]
            exact r
        · rw [if_neg d1] at eC
          by_cases d2 : ν 6 (24 * i + k) ≤ 0
          · rw [decide_eq_false (fun w => w d2)] at eC
            simp only [if_neg d1, if_pos d2]
            cases hb2 : (pourM (fun j => ν 6 (24 * i + j)) (tM t) k).testBit k with
            | true =>
              rw [hb2] at move
              rw [if_pos (by rfl), if_neg (by decide)]
              exact move (by rw [eC]; decide)
            | false =>
              rw [hb2] at stay
              rw [if_neg (by decide), if_pos trivial]
              exact stay (by rw [eC])
          · rw [decide_eq_true d2] at eC
            simp only [if_neg d1, if_neg d2]
            cases hb2 : (pourM (fun j => ν 6 (24 * i + j)) (tM t) k).testBit k with
            | true =>
              rw [hb2] at stay
              rw [if_pos (by rfl), if_pos trivial]
              exact stay (by rw [eC])
            | false =>
              rw [hb2] at move
              rw [if_neg (by decide), if_neg (by decide)]
              exact move (by rw [eC]; decide)) (by
        intro v ⟨q1, q2, q3, q4⟩
        refine ⟨(v.1, v.2.2), ?_, q1, q3, q4⟩
        unfold f_X7_pour_L48
        rw [q2, if_pos (nI_le (Nat.le_refl _) (by omega))])
      obtain ⟨y, d1, d2, d3, d4⟩ := lpE (body := fun v => f_X8_pour_L27 (nI i) v.1 v.2.1 v.2.2) (fun k v => v.1 = nI (pourN (fun j => ν 6 (24 * i + j)) (tM t) k) ∧ v.2.1 = nI k ∧ AM (setM t (pourM (fun j => ν 6 (24 * i + j)) (tM t) k)) (v.2.2 1) ∧ (∀ l, l ≠ 1 → v.2.2 l = ν l) ∧ ∀ q, 59 ≤ q → v.2.2 1 q = ν 1 q) (fun x => x.1 = nI (pourN (fun j => ν 6 (24 * i + j)) (tM t) E) ∧ AM (setM t (pourM (fun j => ν 6 (24 * i + j)) (tM t) E)) (x.2 1) ∧ (∀ l, l ≠ 1 → x.2 l = ν l) ∧ ∀ q, 59 ≤ q → x.2 1 q = ν 1 q) E (fuel := 4000) (v := (0, 0, ν)) (by omega) ⟨rfl, rfl, hM, fun l _ => rfl, fun q _ => rfl⟩ (by
        intro k v hk ⟨q1, q2, q3, q4, q5⟩
        unfold f_X8_pour_L27
        have eb : v.2.2 1 (9 + 5 * k + 1) = nI ((pourM (fun j => ν 6 (24 * i + j)) (tM t) k).testBit k).toNat := by
          have := (q3.2.2 k (by show k < tN t; omega)).2.1
          rw [show 9 + 5 * k + 1 = 10 + 5 * k by omega]
          exact this
        have ix : ((9 : Int32) + 5 * nI k) + 1 = nI (9 + 5 * k + 1) := by show (nI 9 + nI 5 * nI k) + nI 1 = _; rw [pk_mul, nI_add, nI_add]
        rw [q2, q4 5 (by omega), q4 6 (by omega), ldM_n (show i < 4 by omega) (by omega), bs, ez, if_neg (nI_ge (by omega) (by omega)), ld0 q3, bs, if_neg (show ¬ nI (tN (setM t (pourM (fun j => ν 6 (24 * i + j)) (tM t) k))) ≤ nI k from nI_ge (show k < tN t by omega) (show tN t < 2 ^ 31 by omega)), show (24 : Int32) * nI i + nI k = nI (24 * i + k) from by show nI 24 * nI i + nI k = _; rw [pk_mul, nI_add], ldM_n (by omega) (by omega), bs, ix, ldk (by omega), bs, isFor_n, bs, eb, q1]
        have key : ∀ c : Bool, c = pourC (fun j => ν 6 (24 * i + j)) (pourM (fun j => ν 6 (24 * i + j)) (tM t) k) k → ∃ v', f_X8_pour_J88 (nI (pourN (fun j => ν 6 (24 * i + j)) (tM t) k)) (nI k) v.2.2 (nI c.toNat) = some (.inl v') ∧ v'.1 = nI (pourN (fun j => ν 6 (24 * i + j)) (tM t) (k + 1)) ∧ v'.2.1 = nI (k + 1) ∧ AM (setM t (pourM (fun j => ν 6 (24 * i + j)) (tM t) (k + 1))) (v'.2.2 1) ∧ (∀ l, l ≠ 1 → v'.2.2 l = ν l) ∧ ∀ q, 59 ≤ q → v'.2.2 1 q = ν 1 q := by
          intro c hc
          unfold f_X8_pour_J88 f_X8_pour_J115
          rw [ix, bec_n (by omega), bs2, eb]
          have eM : pourM (fun j => ν 6 (24 * i + j)) (tM t) (k + 1) = putM (pourM (fun j => ν 6 (24 * i + j)) (tM t) k) k c := by rw [hc]; rfl
          have eN : pourN (fun j => ν 6 (24 * i + j)) (tM t) (k + 1) = pourN (fun j => ν 6 (24 * i + j)) (tM t) k + (if (pourM (fun j => ν 6 (24 * i + j)) (tM t) k).testBit k = c then 0 else 1) := by rw [hc]; rfl
          have am : AM (setM t (putM (pourM (fun j => ν 6 (24 * i + j)) (tM t) k) k c)) (mset v.2.2 1 (9 + 5 * k + 1) (nI c.toNat) 1) := by
            rw [mset_s, show 9 + 5 * k + 1 = 10 + 5 * k by omega]
            exact AM_M q3 c
          have cnt : (if nI c.toNat = nI ((pourM (fun j => ν 6 (24 * i + j)) (tM t) k).testBit k).toNat then some (Sum.inl (nI (pourN (fun j => ν 6 (24 * i + j)) (tM t) k) + 0, nI k + 1, mset v.2.2 1 (9 + 5 * k + 1) (nI c.toNat))) else some (Sum.inl (nI (pourN (fun j => ν 6 (24 * i + j)) (tM t) k) + 1, nI k + 1, mset v.2.2 1 (9 + 5 * k + 1) (nI c.toNat)))) = (some (Sum.inl (nI (pourN (fun j => ν 6 (24 * i + j)) (tM t) (k + 1)), nI (k + 1), mset v.2.2 1 (9 + 5 * k + 1) (nI c.toNat))) : Option ((Int32 × Int32 × Mem) ⊕ (Int32 × Mem))) := by
            rw [eN, nI_1, nI_1, Int32.add_zero]
            by_cases hb : (pourM (fun j => ν 6 (24 * i + j)) (tM t) k).testBit k = c
            · rw [hb, if_pos rfl, if_pos rfl]
              rfl
            · rw [if_neg hb, if_neg (by revert hb; cases (pourM (fun j => ν 6 (24 * i + j)) (tM t) k).testBit k <;> cases c <;> decide)]
          exact ⟨_, cnt, rfl, rfl, by rw [eM]; exact am, fun l hl => (mset_n hl).trans (q4 l hl), fun q hq => (mset_sn (by omega)).trans (q5 q hq)⟩
        have eC : pourC (fun j => ν 6 (24 * i + j)) (pourM (fun j => ν 6 (24 * i + j)) (tM t) k) k = if ν 6 (24 * i + k) = -1000000005 then (pourM (fun j => ν 6 (24 * i + j)) (tM t) k).testBit k else decide (¬ ν 6 (24 * i + k) ≤ 0) := rfl
        by_cases d1 : ν 6 (24 * i + k) = -1000000005
        · rw [if_pos d1] at eC
          rw [if_pos d1]
          exact key _ eC.symm
        · rw [if_neg d1] at eC
          rw [if_neg d1]
          exact key _ eC.symm) (by
        intro v ⟨q1, q2, q3, q4, q5⟩
        refine ⟨(v.1, v.2.2), ?_, q1, q3, q4, q5⟩
        unfold f_X8_pour_L27
        rw [q2, q4 5 (by omega), ldM_n (show i < 4 by omega) (by omega), bs, ez]
        by_cases c : z ≤ E
        · rw [if_pos (nI_le c (by omega))]
        · rw [if_neg (nI_ge (by omega) (by omega)), ld0 q3, bs, if_pos (show nI (tN (setM t (pourM (fun j => ν 6 (24 * i + j)) (tM t) E))) ≤ nI E from nI_le (show tN t ≤ E by omega) (by omega))])
      rw [c1, bs, d1, bs]
      unfold f_X7_pour_K48_122 f_X8_pour_K27_123
      rw [c2, d2]
      exact ⟨_, x.2, y.2, rfl, rfl, K _ _ _ (hVk E k1) hY c3 d3 rfl (fun l l1 _ _ _ => c4 l (by omega)) ⟨fun l l1 _ _ _ _ _ _ => d4.1 l l1, d4.2⟩⟩
  · simp only [if_neg h1]
    exact ⟨-1000000001, μ, ν, rfl, rfl, hR⟩
