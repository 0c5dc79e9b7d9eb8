/-! BEST: the two loops -/
section RF
variable {a : AT} {ν μ μ' : Mem}
theorem sets_n {k w : Nat} (hk : k < 10) (hw : w < 5) (v : Int32) : f_X8_sets (nI k) (nI w) v ν = some (mset ν 1 (9 + 5 * k + w) v) := by
  unfold f_X8_sets
  rw [show ((9 : Int32) + 5 * nI k) + nI w = nI (9 + 5 * k + w) from by show (nI 9 + nI 5 * nI k) + nI w = _; rw [pk_mul, nI_add, nI_add], stM_n (by omega) (by omega), bs]
theorem joins_M (hV : AV a) (h : AM a (ν 1)) {i j : Nat} (hij : i ≠ j) (hi : i < tN a) (hj : j < tN a) (c : Bool) : f_X8_joins (nI i) (nI j) (nI c.toNat) ν = some (mrow ν 1 (upd (upd (ν 1) (13 + 5 * i) (nI (sbit (tF a i) j c))) (13 + 5 * j) (nI (sbit (tF a j) i c)))) := by
  have hn := hV.1
  have g : ∀ v, f_X8_of (nI j) 4 (mset ν 1 (9 + 5 * i + 4) v) = some (nI (tF a j)) := fun v => by
    rw [show (4 : Int32) = nI 4 from rfl, of_w 4 (by omega) (by omega), mset_sn (by omega), show 9 + 5 * j + 4 = 13 + 5 * j by omega, (h.2.2 j hj).2.2.2.2]
  have e : ∀ v w, mset (mset ν 1 (9 + 5 * i + 4) v) 1 (9 + 5 * j + 4) w = mrow ν 1 (upd (upd (ν 1) (13 + 5 * i) v) (13 + 5 * j) w) := fun v w => by
    rw [show mset ν 1 (9 + 5 * i + 4) v = mrow ν 1 (upd (ν 1) (9 + 5 * i + 4) v) from rfl, mset_mrow, show 9 + 5 * i + 4 = 13 + 5 * i by omega, show 9 + 5 * j + 4 = 13 + 5 * j by omega]
  unfold f_X8_joins f_X8_joins_J33
  cases c with
  | true =>
    rw [if_pos (by rfl), of_4 hV h hi, bs, one_shl _ (by omega), fa_or, show (4 : Int32) = nI 4 from rfl, sets_n (by omega) (by omega), bs, if_pos (by rfl), show nI 4 = (4 : Int32) from rfl, g, bs, one_shl _ (by omega), fa_or, show (4 : Int32) = nI 4 from rfl, sets_n (by omega) (by omega), bs, e]
    rfl
  | false =>
    rw [if_neg (by decide), of_4 hV h hi, bs, one_shl _ (by omega), not_nI (by omega), show (4 : Int32) = nI 4 from rfl, sets_n (by omega) (by omega), bs, if_neg (by decide), show nI 4 = (4 : Int32) from rfl, g, bs, one_shl _ (by omega), not_nI (by omega), show (4 : Int32) = nI 4 from rfl, sets_n (by omega) (by omega), bs, e]
    rfl
theorem AM_tog {s : Nat → Int32} (h : AM a s) (hN : tN a ≤ 10) {i j : Nat} (hij : i ≠ j) : AM (tog a i j) (upd (upd s (13 + 5 * i) (nI (tF a i ^^^ 2 ^ j))) (13 + 5 * j) (nI (tF a j ^^^ 2 ^ i))) := by
  have u : ∀ q, q ≠ 13 + 5 * i → q ≠ 13 + 5 * j → upd (upd s (13 + 5 * i) (nI (tF a i ^^^ 2 ^ j))) (13 + 5 * j) (nI (tF a j ^^^ 2 ^ i)) q = s q := fun q h1 h2 => by rw [pk_un h2, pk_un h1]
  refine ⟨by rw [u 0 (by omega) (by omega)]; exact h.1, ?_, fun k hk => ⟨?_, ?_, ?_, ?_, ?_⟩⟩
  · rw [u 1 (by omega) (by omega), u 2 (by omega) (by omega), u 3 (by omega) (by omega), u 4 (by omega) (by omega), u 5 (by omega) (by omega), u 6 (by omega) (by omega), u 7 (by omega) (by omega), u 8 (by omega) (by omega)]
    exact h.2.1
  · rw [u _ (by omega) (by omega)]; exact (h.2.2 k hk).1
  · rw [u _ (by omega) (by omega)]; exact (h.2.2 k hk).2.1
  · rw [u _ (by omega) (by omega)]; exact (h.2.2 k hk).2.2.1
  · rw [u _ (by omega) (by omega)]; exact (h.2.2 k hk).2.2.2.1
  · by_cases e2 : k = j
    · rw [e2, pk_us, tog_j a hij]
    · rw [pk_un (by omega)]
      by_cases e1 : k = i
      · rw [e1, pk_us, tog_i]
      · rw [pk_un (by omega), tog_k a e1 e2]
        exact (h.2.2 k hk).2.2.2.2
theorem frd_M (hV : AV a) (h : AM a (ν 1)) {i j : Nat} (hi : i < tN a) (hj : j < tN a) : f_X8_areFriends (nI i) (nI j) ν = some (nI ((tF a i).testBit j).toNat) := by
  have hn := hV.1
  have hf := tF_lt hV hi
  unfold f_X8_areFriends
  rw [of_4 hV h hi, bs, bit_nI _ _ (by omega) (by omega)]
theorem frd_C {b : Nat} (hV : AV a) (h : AC a μ b) {i j : Nat} (hi : i < tN a) (hj : j < tN a) : f_X6_areFriends b (nI i) (nI j) μ = some (nI ((tF a i).testBit j).toNat) := by
  have hn := hV.1
  have hf := tF_lt hV hi
  unfold f_X6_areFriends
  rw [ldM_n (by omega) (by omega), bs, (h.2.2.2 i hi).2.2.2, bit_nI _ _ (by omega) (by omega)]
  cases (tF a i).testBit j
  · exact if_neg (by decide)
  · exact if_pos (by rfl)
def bStep (a : AT) (c : Bool) (i j : Nat) (o : Option (Nat × Nat)) : Option (Nat × Nat) := if (tF a i).testBit j = c then o else (match o with
  | none => some (100 * i + j, aCnt (tog a i j) (2 ^ tN a))
  | some p => if aCnt (tog a i j) (2 ^ tN a) ≤ p.2 then some p else some (100 * i + j, aCnt (tog a i j) (2 ^ tN a)))
theorem bStep_e {c : Bool} {i j : Nat} {o : Option (Nat × Nat)} (h : (tF a i).testBit j = c) : bStep a c i j o = o := if_pos h
theorem bStep_n {c : Bool} {i j : Nat} (h : ¬ (tF a i).testBit j = c) : bStep a c i j none = some (100 * i + j, aCnt (tog a i j) (2 ^ tN a)) := if_neg h
theorem bStep_s {c : Bool} {i j : Nat} {p : Nat × Nat} (h : ¬ (tF a i).testBit j = c) (h2 : aCnt (tog a i j) (2 ^ tN a) ≤ p.2) : bStep a c i j (some p) = some p := (if_neg h).trans (if_pos h2)
theorem bStep_t {c : Bool} {i j : Nat} {p : Nat × Nat} (h : ¬ (tF a i).testBit j = c) (h2 : ¬ aCnt (tog a i j) (2 ^ tN a) ≤ p.2) : bStep a c i j (some p) = some (100 * i + j, aCnt (tog a i j) (2 ^ tN a)) := (if_neg h).trans (if_neg h2)
def bIn (a : AT) (c : Bool) (i : Nat) (o : Option (Nat × Nat)) : Nat → Option (Nat × Nat)
  | 0 => o
  | k + 1 => bStep a c i (i + 1 + k) (bIn a c i o k)
def bOut (a : AT) (c : Bool) : Nat → Option (Nat × Nat)
  | 0 => none
  | i + 1 => bIn a c i (bOut a c i) (tN a - (i + 1))
def bOk (o : Option (Nat × Nat)) : Prop := ∀ p, o = some p → p.1 ≤ 1000 ∧ p.2 ≤ 1024
theorem aCnt_le {a : AT} (hV : AV a) (a' : AT) : aCnt a' (2 ^ tN a) ≤ 1024 := by
  have h := aSum_le (f := fun m => (aWay a' m).toNat) (c := 1) (fun k => by cases aWay a' k <;> decide) (2 ^ tN a)
  have hp := pN_le hV
  unfold aCnt
  omega
theorem bOk_s (hV : AV a) {c : Bool} {i j : Nat} (hi : i < 10) (hj : j < 10) {o : Option (Nat × Nat)} (h : bOk o) : bOk (bStep a c i j o) := by
  have hc := aCnt_le hV (tog a i j)
  have n : bOk (some (100 * i + j, aCnt (tog a i j) (2 ^ tN a))) := fun p hp => by
    rw [← Option.some.inj hp]
    exact ⟨by show 100 * i + j ≤ 1000; omega, hc⟩
  by_cases h1 : (tF a i).testBit j = c
  · rw [bStep_e h1]; exact h
  · cases o with
    | none => rw [bStep_n h1]; exact n
    | some q =>
      by_cases h2 : aCnt (tog a i j) (2 ^ tN a) ≤ q.2
      · rw [bStep_s h1 h2]; exact h
      · rw [bStep_t h1 h2]; exact n
theorem bOk_i (hV : AV a) {c : Bool} {i : Nat} {o : Option (Nat × Nat)} (h : bOk o) : ∀ k, i + 1 + k ≤ 10 → bOk (bIn a c i o k)
  | 0, _ => h
  | k + 1, hk => bOk_s hV (by omega) (by omega) (bOk_i hV h k (by omega))
theorem bOk_o (hV : AV a) {c : Bool} : ∀ k, k ≤ tN a → bOk (bOut a c k)
  | 0, _ => fun p hp => by cases hp
  | k + 1, hk => bOk_i hV (bOk_o hV k (by omega)) _ (by have := hV.1; omega)
def bX (n : Int32) (o : Option (Nat × Nat)) : Int32 × Int32 := match o with
  | none => (n, n)
  | some p => (nI p.1, nI p.2)
theorem ix100 (i j : Nat) : (100 : Int32) * nI i + nI j = nI (100 * i + j) := by
  show nI 100 * nI i + nI j = _
  rw [pk_mul, nI_add]
theorem best_Cs (hV : AV a) (h0 : AC a μ' 21) (h : Sc a μ μ') (c : Bool) {i j : Nat} (hij : i ≠ j) (hi : i < tN a) (hj : j < tN a) {o : Option (Nat × Nat)} (ho : bOk o) : f_X7_best_L60 (nI c.toNat) μ' (nI i) (bX (-1000000005) o).1 (bX (-1000000005) o).2 (nI j) = some (.inl ((bX (-1000000005) (bStep a c i j o)).1, (bX (-1000000005) (bStep a c i j o)).2, nI (j + 1))) := by
  have hn := hV.1
  have hc := aCnt_le hV (tog a i j)
  unfold f_X7_best_L60
  rw [h0.1, if_neg (nI_ge hj (by omega)), frd_C hV h0 hi hj, bs]
  have sk : ∀ o, bOk o → f_X7_best_J100 μ' (nI i) (bX (-1000000005) o).1 (bX (-1000000005) o).2 (nI j) 0 = some (.inl ((bX (-1000000005) o).1, (bX (-1000000005) o).2, nI (j + 1))) := by
    intro o ho
    unfold f_X7_best_J100 f_X7_best_J127 f_X7_best_J149
    rw [if_pos rfl, nI_1]
    cases o with
    | none => exact if_pos (by decide)
    | some p => exact if_pos (Int32.le_iff_toInt_le.mpr (by
        have := (ho p rfl).2
        show (-1000000005 : Int32).toInt ≤ (nI p.2).toInt
        rw [nI_toInt (by omega), show (-1000000005 : Int32).toInt = -1000000005 from rfl]
        omega))
  have tk : ¬ (tF a i).testBit j = c → f_X7_best_J100 μ' (nI i) (bX (-1000000005) o).1 (bX (-1000000005) o).2 (nI j) 1 = some (.inl ((bX (-1000000005) (bStep a c i j o)).1, (bX (-1000000005) (bStep a c i j o)).2, nI (j + 1))) := by
    intro hb
    unfold f_X7_best_J100 f_X7_best_J127 f_X7_best_J149
    rw [if_neg (by decide), turned_C hV h0 h hij hi hj, bs, nI_1, ix100]
    cases o with
    | none =>
      rw [bStep_n hb]
      exact if_neg (fun z => by
        have z := Int32.le_iff_toInt_le.mp z
        rw [nI_toInt (by omega)] at z
        have e : (bX (-1000000005) none).2.toInt = -1000000005 := rfl
        rw [e] at z
        omega)
    | some p =>
      have := (ho p rfl).2
      by_cases h2 : aCnt (tog a i j) (2 ^ tN a) ≤ p.2
      · rw [bStep_s hb h2]
        exact if_pos (nI_le h2 (by omega))
      · rw [bStep_t hb h2]
        exact if_neg (nI_ge (by omega) (by omega))
  unfold f_X7_best_J92
  cases hb : (tF a i).testBit j <;> cases c
  · rw [if_pos (by rfl), if_neg (by decide), bStep_e hb]
    exact sk o ho
  · rw [if_neg (by decide), if_pos (by rfl)]
    exact tk (by rw [hb]; decide)
  · rw [if_pos (by rfl), if_pos (by rfl)]
    exact tk (by rw [hb]; decide)
  · rw [if_neg (by decide), if_neg (by decide), bStep_e hb]
    exact sk o ho
theorem best_C (hV : AV a) (h0 : AC a μ' 21) (h : Sc a μ μ') (c : Bool) : lpF (fun v => f_X7_best_L42 (nI c.toNat) μ' v.1 v.2.1 v.2.2) 4000 ((-1000000005), (-1000000005), 0) = some (bX (-1000000005) (bOut a c (tN a))) := by
  have hn := hV.1
  refine lp0 (fun k => ((bX (-1000000005) (bOut a c k)).1, (bX (-1000000005) (bOut a c k)).2, nI k)) _ (tN a) rfl (by omega) (fun i hi => ?_) ?_
  · show f_X7_best_L42 (nI c.toNat) μ' (bX (-1000000005) (bOut a c i)).1 (bX (-1000000005) (bOut a c i)).2 (nI i) = _
    unfold f_X7_best_L42
    rw [h0.1, if_neg (nI_ge hi (by omega)), nI_1]
    refine (bl (fun k => ((bX (-1000000005) (bIn a c i (bOut a c i) k)).1, (bX (-1000000005) (bIn a c i (bOut a c i) k)).2, nI (i + 1 + k))) (bX (-1000000005) (bOut a c (i + 1))) (tN a - (i + 1)) rfl (by omega) (fun k hk => ?_) ?_).trans ?_
    · exact best_Cs hV h0 h c (by omega) hi (by omega) (bOk_i hV (bOk_o hV i (by omega)) k (by omega))
    · show f_X7_best_L60 (nI c.toNat) μ' (nI i) _ _ (nI (i + 1 + (tN a - (i + 1)))) = _
      unfold f_X7_best_L60
      rw [h0.1, if_pos (nI_le (by omega) (by omega))]
      rfl
    · unfold f_X7_best_K60_155
      rw [nI_1]
  · show f_X7_best_L42 (nI c.toNat) μ' _ _ (nI (tN a)) = _
    unfold f_X7_best_L42
    rw [h0.1, if_pos (nI_le (Nat.le_refl _) (by omega))]
end RF
