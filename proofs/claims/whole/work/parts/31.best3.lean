/-! BEST: the reference's loops -/
section RG
variable {a : AT} {ν μ μ' : Mem}
theorem ld0 (h : AM a (ν 1)) : ldM (ν 1) 3059 0 = some (nI (tN a)) := by
  rw [← h.1]
  exact ldM_n (k := 0) (by omega) (by omega)
theorem best_Ms (hV : AV a) (h : AM a (ν 1)) (c : Bool) {i j : Nat} (hij : i ≠ j) (hi : i < tN a) (hj : j < tN a) {o : Option (Nat × Nat)} (ho : bOk o) : f_X8_best_L48 (nI c.toNat) (nI i) (bX (-1) o).1 (bX (-1) o).2 (nI j) ν = some (.inl ((bX (-1) (bStep a c i j o)).1, (bX (-1) (bStep a c i j o)).2, nI (j + 1), ν)) := by
  have hn := hV.1
  have hc := aCnt_le hV (tog a i j)
  have hV' := AV_tog hV hij hi hj
  unfold f_X8_best_L48
  rw [ld0 h, bs, if_neg (nI_ge hj (by omega)), frd_M hV h hi hj, bs]
  by_cases hb : (tF a i).testBit j = c
  · rw [if_pos (by rw [hb]), bStep_e hb]
    unfold f_X8_best_J133
    rw [nI_1]
  · have hb2 : (tF a j).testBit i = (tF a i).testBit j := (hV.2.2.2.1 i j hi hj).symm
    have hne : ¬ nI ((tF a i).testBit j).toNat = nI c.toNat := by
      revert hb
      cases (tF a i).testBit j <;> cases c <;> decide
    have s1 : sbit (tF a i) j c = tF a i ^^^ 2 ^ j := (sbit_all _ (tF_lt hV hi) j (by omega) c).trans (if_neg hb)
    have s2 : sbit (tF a j) i c = tF a j ^^^ 2 ^ i := (sbit_all _ (tF_lt hV hj) i (by omega) c).trans (if_neg (by rw [hb2]; exact hb))
    have hM' := AM_tog h hV.1 hij
    have t1 : ¬ (tF (tog a i j) i).testBit j = !c := by
      rw [tog_bit a hij, decide_eq_true (Or.inl ⟨rfl, rfl⟩), Bool.xor_true]
      revert hb
      cases (tF a i).testBit j <;> cases c <;> decide
    have t2 : ¬ (tF (tog a i j) j).testBit i = !c := by
      rw [tog_bit a hij, decide_eq_true (Or.inr ⟨rfl, rfl⟩), Bool.xor_true, hb2]
      revert hb
      cases (tF a i).testBit j <;> cases c <;> decide
    have s3 : sbit (tF (tog a i j) i) j (!c) = tF a i := by
      rw [(sbit_all _ (tF_lt hV' hi) j (by omega) (!c)).trans (if_neg t1), tog_i, xor_xor]
    have s4 : sbit (tF (tog a i j) j) i (!c) = tF a j := by
      rw [(sbit_all _ (tF_lt hV' hj) i (by omega) (!c)).trans (if_neg t2), tog_j a hij, xor_xor]
    have hcc : (1 : Int32) - nI c.toNat = nI (!c).toNat := by cases c <;> rfl
    have hM2 : AM (tog a i j) ((mrow ν 1 (upd (upd (ν 1) (13 + 5 * i) (nI (tF a i ^^^ 2 ^ j))) (13 + 5 * j) (nI (tF a j ^^^ 2 ^ i)))) 1) := by rw [mrow_s]; exact hM'
    have bk : mrow (mrow ν 1 (upd (upd (ν 1) (13 + 5 * i) (nI (tF a i ^^^ 2 ^ j))) (13 + 5 * j) (nI (tF a j ^^^ 2 ^ i)))) 1 (upd (upd ((mrow ν 1 (upd (upd (ν 1) (13 + 5 * i) (nI (tF a i ^^^ 2 ^ j))) (13 + 5 * j) (nI (tF a j ^^^ 2 ^ i)))) 1) (13 + 5 * i) (nI (tF a i))) (13 + 5 * j) (nI (tF a j))) = ν := by
      rw [mrow_mrow, mrow_s]
      refine (congrArg (mrow ν 1) ?_).trans (mrow_id ν 1)
      funext q
      by_cases q2 : q = 13 + 5 * j
      · rw [q2, pk_us, (h.2.2 j hj).2.2.2.2]
      · rw [pk_un q2]
        by_cases q1 : q = 13 + 5 * i
        · rw [q1, pk_us, (h.2.2 i hi).2.2.2.2]
        · rw [pk_un q1, pk_un q2, pk_un q1]
    have wy : f_X8_ways (mrow ν 1 (upd (upd (ν 1) (13 + 5 * i) (nI (tF a i ^^^ 2 ^ j))) (13 + 5 * j) (nI (tF a j ^^^ 2 ^ i)))) = some (nI (aCnt (tog a i j) (2 ^ tN a))) := ways_M hV' hM2
    rw [if_neg hne, joins_M hV h hij hi hj c, bs, s1, s2, wy, bs, hcc, joins_M hV' hM2 hij hi hj (!c), bs, s3, s4, bk]
    unfold f_X8_best_J116 f_X8_best_J131 f_X8_best_J133
    rw [nI_1, ix100]
    cases o with
    | none =>
      rw [bStep_n hb]
      have hz : ¬ nI (aCnt (tog a i j) (2 ^ tN a)) ≤ (bX (-1) none).2 := fun z => by
        have z := Int32.le_iff_toInt_le.mp z
        rw [nI_toInt (by omega)] at z
        have e : (bX (-1) none).2.toInt = -1 := rfl
        rw [e] at z
        omega
      rw [if_neg hz, if_neg hz]
      rfl
    | some p =>
      have := (ho p rfl).2
      by_cases h2 : aCnt (tog a i j) (2 ^ tN a) ≤ p.2
      · have hz : nI (aCnt (tog a i j) (2 ^ tN a)) ≤ (bX (-1) (some p)).2 := nI_le h2 (by omega)
        rw [bStep_s hb h2, if_pos hz, if_pos hz]
      · have hz : ¬ nI (aCnt (tog a i j) (2 ^ tN a)) ≤ (bX (-1) (some p)).2 := nI_ge (by omega) (by omega)
        rw [bStep_t hb h2, if_neg hz, if_neg hz]
        rfl
theorem best_M (hV : AV a) (h : AM a (ν 1)) (c : Bool) : lpF (fun v => f_X8_best_L31 (nI c.toNat) v.1 v.2.1 v.2.2.1 v.2.2.2) 4000 ((-1), (-1), 0, ν) = some ((bX (-1) (bOut a c (tN a))).1, (bX (-1) (bOut a c (tN a))).2, ν) := by
  have hn := hV.1
  refine lp0 (fun k => ((bX (-1) (bOut a c k)).1, (bX (-1) (bOut a c k)).2, nI k, ν)) _ (tN a) rfl (by omega) (fun i hi => ?_) ?_
  · show f_X8_best_L31 (nI c.toNat) (bX (-1) (bOut a c i)).1 (bX (-1) (bOut a c i)).2 (nI i) ν = _
    unfold f_X8_best_L31
    rw [ld0 h, bs, if_neg (nI_ge hi (by omega)), nI_1]
    refine (bl (fun k => ((bX (-1) (bIn a c i (bOut a c i) k)).1, (bX (-1) (bIn a c i (bOut a c i) k)).2, nI (i + 1 + k), ν)) ((bX (-1) (bOut a c (i + 1))).1, (bX (-1) (bOut a c (i + 1))).2, ν) (tN a - (i + 1)) rfl (by omega) (fun k hk => ?_) ?_).trans ?_
    · exact best_Ms hV h c (by omega) hi (by omega) (bOk_i hV (bOk_o hV i (by omega)) k (by omega))
    · show f_X8_best_L48 (nI c.toNat) (nI i) _ _ (nI (i + 1 + (tN a - (i + 1)))) ν = _
      unfold f_X8_best_L48
      rw [ld0 h, bs, if_pos (nI_le (by omega) (by omega))]
      rfl
    · unfold f_X8_best_K48_139
      rw [nI_1]
  · show f_X8_best_L31 (nI c.toNat) _ _ (nI (tN a)) ν = _
    unfold f_X8_best_L31
    rw [ld0 h, bs, if_pos (nI_le (Nat.le_refl _) (by omega))]
end RG
/-- x is 0 or 1 -/
theorem is01 {x : Int32} (h : 0 ≤ x.toInt ∧ x.toInt ≤ 1) : ∃ c : Bool, x = nI c.toNat := by
  obtain ⟨k, hk, e⟩ := isK_n (x := x) (n := 2) ⟨h.1, by have := h.2; omega⟩
  rcases (by omega : k = 0 ∨ k = 1) with rfl | rfl
  · exact ⟨false, e⟩
  · exact ⟨true, e⟩
def bR (w : Int32) (o : Option (Nat × Nat)) : Int32 := match o with
  | none => -1000000005
  | some p => if w = 0 then nI p.1 else nI p.2
theorem Step_14 : Step Rel C7_14 C8_14 := by
  intro a μ ν hR
  obtain ⟨t, hV, -, hC, hM⟩ := hR.tw
  obtain ⟨μ', e1, e2⟩ := scan_C hV hC
  by_cases h1 : 0 ≤ (a 1).toInt ∧ (a 1).toInt ≤ 1
  · by_cases h2 : 0 ≤ (a 2).toInt ∧ (a 2).toInt ≤ 1
    · obtain ⟨c, hc⟩ := is01 h1
      refine ⟨bR (a 2) (bOut t c (tN t)), μ', ν, ?_, ?_, hR.of e2.same (SameM.rf ν)⟩
      · unfold C7_14 f_X7_best
        rw [out_L (l := 0) (h := 1) _ rfl rfl, bs, if_pos h1, if_pos rfl, out_L (l := 0) (h := 1) _ rfl rfl, bs, if_pos h2, if_pos rfl, e1, bs, hc, best_C hV (e2.ac hC) e2 c, bs]
        unfold f_X7_best_K42_161
        cases bOut t c (tN t) with
        | none =>
          by_cases hw : a 2 = 0
          · rw [if_pos hw]; rfl
          · rw [if_neg hw]; rfl
        | some p =>
          by_cases hw : a 2 = 0
          · rw [if_pos hw]; unfold bR; dsimp only; rw [if_pos hw]; rfl
          · rw [if_neg hw]; unfold bR; dsimp only; rw [if_neg hw]; rfl
      · unfold C8_14 f_X8_best
        rw [isIn_L (l := 0) (h := 1) _ rfl rfl, bs, if_pos h1, if_neg (by decide), isIn_L (l := 0) (h := 1) _ rfl rfl, bs, if_pos h2, if_neg (by decide), hc, best_M hV hM c, bs]
        unfold f_X8_best_K31_145
        have hok := bOk_o hV (c := c) (tN t) (Nat.le_refl _)
        cases ho : bOut t c (tN t) with
        | none =>
          exact if_neg (show ¬ (0 : Int32) ≤ -1 by decide)
        | some p =>
          have := (hok p ho).1
          refine (if_pos (nI_pos' (by omega))).trans ?_
          unfold bR
          by_cases hw : a 2 = 0
          · rw [if_pos hw]; dsimp only; rw [if_pos hw]; rfl
          · rw [if_neg hw]; dsimp only; rw [if_neg hw]; rfl
    · refine ⟨-1000000001, μ, ν, ?_, ?_, hR⟩
      · unfold C7_14 f_X7_best
        rw [out_L (l := 0) (h := 1) _ rfl rfl, bs, if_pos h1, if_pos rfl, out_L (l := 0) (h := 1) _ rfl rfl, bs, if_neg h2, if_neg (by decide)]
      · unfold C8_14 f_X8_best
        rw [isIn_L (l := 0) (h := 1) _ rfl rfl, bs, if_pos h1, if_neg (by decide), isIn_L (l := 0) (h := 1) _ rfl rfl, bs, if_neg h2, if_pos rfl]
  · refine ⟨-1000000001, μ, ν, ?_, ?_, hR⟩
    · unfold C7_14 f_X7_best
      rw [out_L (l := 0) (h := 1) _ rfl rfl, bs, if_neg h1, if_neg (by decide)]
    · unfold C8_14 f_X8_best
      rw [isIn_L (l := 0) (h := 1) _ rfl rfl, bs, if_neg h1, if_pos rfl]
