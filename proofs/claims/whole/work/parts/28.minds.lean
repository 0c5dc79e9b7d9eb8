/-! MINDS, FREEDOM, TOGETHER -/
theorem isIn_L (x : Int32) {lo hi : Int64} {l h : Int} (hl : lo.toInt = l) (hh : hi.toInt = h) : f_X8_isIn x.toInt64 lo hi = some (if l ≤ x.toInt ∧ x.toInt ≤ h then 1 else 0) := by rw [isIn_M, hl, hh]
theorem out_L (x : Int32) {lo hi : Int32} {l h : Int} (hl : lo.toInt = l) (hh : hi.toInt = h) : f_X7_outside x lo hi = some (if l ≤ x.toInt ∧ x.toInt ≤ h then 0 else 1) := by rw [out_C, hl, hh]
def aPick (a : AT) (w : Int32) : Nat → Option (Nat × Int32)
  | 0 => none
  | k + 1 => if aWay a k = true then (match aPick a w k with
    | none => some (k, aCost a k w)
    | some p => if p.2 ≤ aCost a k w then some p else some (k, aCost a k w)) else aPick a w k
section PK
variable {a : AT} {w : Int32} {k : Nat} {q : Nat × Int32}
theorem aPick_0 (hw : ¬ aWay a k = true) : aPick a w (k + 1) = aPick a w k := by rw [aPick, if_neg hw]
theorem aPick_n (hw : aWay a k = true) (hq : aPick a w k = none) : aPick a w (k + 1) = some (k, aCost a k w) := by rw [aPick, if_pos hw, hq]
theorem aPick_s (hw : aWay a k = true) (hq : aPick a w k = some q) (hc : q.2 ≤ aCost a k w) : aPick a w (k + 1) = some q := by
  rw [aPick, if_pos hw, hq]
  exact if_pos hc
theorem aPick_t (hw : aWay a k = true) (hq : aPick a w k = some q) (hc : ¬ q.2 ≤ aCost a k w) : aPick a w (k + 1) = some (k, aCost a k w) := by
  rw [aPick, if_pos hw, hq]
  exact if_neg hc
end PK
theorem aPick_lt (a : AT) (w : Int32) : ∀ k p, aPick a w k = some p → p.1 < k
  | 0, p, h => by cases h
  | k + 1, p, h => by
    by_cases hw : aWay a k = true
    · cases hq : aPick a w k with
      | none =>
        rw [aPick_n hw hq] at h
        rw [← Option.some.inj h]
        exact Nat.lt_succ_self k
      | some q =>
        by_cases hc : q.2 ≤ aCost a k w
        · rw [aPick_s hw hq hc] at h
          rw [← Option.some.inj h]
          exact Nat.lt_succ_of_lt (aPick_lt a w k q hq)
        · rw [aPick_t hw hq hc] at h
          rw [← Option.some.inj h]
          exact Nat.lt_succ_self k
    · rw [aPick_0 hw] at h
      exact Nat.lt_succ_of_lt (aPick_lt a w k p h)
def pkX (none_ : Int32) (o : Option (Nat × Int32)) : Int32 × Int32 := match o with
  | none => (none_, 0)
  | some p => (nI p.1, p.2)
def pkR (o : Option (Nat × Int32)) : Int32 := match o with
  | none => -1000000005
  | some p => nI p.1
theorem nI_notE {n : Nat} (h : n < 2 ^ 31) : ¬ nI n = (-1000000005 : Int32) := fun z => nI_pos h (by rw [z]; decide)
section RD
variable {a : AT} {ν μ μ' : Mem}
theorem chosen_C (hV : AV a) (h0 : AC a μ 21) (h : Sc a μ μ') (w : Int32) : f_X2_chosen 21 w μ' = some (pkR (aPick a w (2 ^ tN a))) := by
  unfold f_X2_chosen
  have hp := pN_le hV
  have hac := h.ac h0
  refine (bl (fun k => ((pkX (-1000000005) (aPick a w k)).1, (pkX (-1000000005) (aPick a w k)).2, nI k)) (pkR (aPick a w (2 ^ tN a))) (2 ^ tN a) rfl (by omega) (fun k hk => ?_) ?_).trans rfl
  · show f_X2_chosen_L9 21 w μ' (pkX (-1000000005) (aPick a w k)).1 (pkX (-1000000005) (aPick a w k)).2 (nI k) = _
    unfold f_X2_chosen_L9
    rw [h.2.1, if_neg (nI_ge hk (by omega)), ldM_n (by omega) (by omega), bs, h.2.2 k hk]
    have c := cell_0 hV k
    unfold f_X2_chosen_J50 f_X2_chosen_J57
    by_cases hw : aWay a k = true
    · rw [if_pos (c.mpr hw), cost_C hV hac (by omega), bs, nI_1]
      cases hq : aPick a w k with
      | none =>
        rw [aPick_n hw hq]
        rfl
      | some q =>
        have hl := aPick_lt a w k q hq
        rw [if_neg (show ¬ (pkX (-1000000005) (some q)).1 = (-1000000005 : Int32) from nI_notE (by omega))]
        by_cases hc : q.2 ≤ aCost a k w
        · rw [if_pos (show (pkX (-1000000005) (some q)).2 ≤ aCost a k w from hc), aPick_s hw hq hc]
        · rw [if_neg (show ¬ (pkX (-1000000005) (some q)).2 ≤ aCost a k w from hc), aPick_t hw hq hc]
          rfl
    · rw [if_neg (fun z => hw (c.mp z)), aPick_0 hw, nI_1]
  · show f_X2_chosen_L9 21 w μ' (pkX (-1000000005) (aPick a w (2 ^ tN a))).1 (pkX (-1000000005) (aPick a w (2 ^ tN a))).2 (nI (2 ^ tN a)) = _
    unfold f_X2_chosen_L9
    rw [h.2.1, if_pos (nI_le (Nat.le_refl _) (by omega))]
    cases aPick a w (2 ^ tN a) <;> rfl
theorem orNone_n {n : Nat} (h : n < 2 ^ 31) : f_X8_orNone (nI n) = some (nI n) := if_pos (nI_pos' h)
theorem minds_M (hV : AV a) (h : AM a (ν 1)) (w : Int32) (hw0 : 0 ≤ w.toInt ∧ w.toInt ≤ 3) : f_X8_minds w ν = some (pkR (aPick a w (2 ^ tN a))) := by
  unfold f_X8_minds
  have hn := hV.1
  have hp := pN_le hV
  rw [isIn_L (l := 0) (h := 3) w rfl rfl, bs, if_pos hw0, if_neg (by decide)]
  refine (bl (fun k => ((pkX (-1) (aPick a w k)).1, (pkX (-1) (aPick a w k)).2, nI k)) ((pkX (-1) (aPick a w (2 ^ tN a))).1) (2 ^ tN a) rfl (by omega) (fun k hk => ?_) ?_).trans ?_
  · show f_X8_minds_L22 w ν (pkX (-1) (aPick a w k)).1 (pkX (-1) (aPick a w k)).2 (nI k) = _
    unfold f_X8_minds_L22
    rw [show ldM (ν 1) 3059 0 = some (ν 1 0) from ldM_n (k := 0) (by omega) (by omega), bs, h.1, one_shl _ (by omega), if_neg (nI_ge hk (by omega)), isWay_M hV h, bs]
    unfold f_X8_minds_J59 f_X8_minds_J70
    simp only [cost_M hV h (show k < 1024 by omega), bs, nI_1]
    cases hw : aWay a k with
    | true =>
      rw [if_neg (by decide)]
      cases hq : aPick a w k with
      | none =>
        rw [aPick_n hw hq]
        rfl
      | some q =>
        have hl := aPick_lt a w k q hq
        rw [if_neg (show ¬ (pkX (-1) (some q)).1 < 0 from nI_pos (by omega))]
        by_cases hc : q.2 ≤ aCost a k w
        · rw [if_pos (show (pkX (-1) (some q)).2 ≤ aCost a k w from hc), aPick_s hw hq hc]
        · rw [if_neg (show ¬ (pkX (-1) (some q)).2 ≤ aCost a k w from hc), aPick_t hw hq hc]
          rfl
    | false =>
      rw [if_pos (by rfl), aPick_0 (by rw [hw]; decide)]
  · show f_X8_minds_L22 w ν (pkX (-1) (aPick a w (2 ^ tN a))).1 (pkX (-1) (aPick a w (2 ^ tN a))).2 (nI (2 ^ tN a)) = _
    unfold f_X8_minds_L22
    rw [show ldM (ν 1) 3059 0 = some (ν 1 0) from ldM_n (k := 0) (by omega) (by omega), bs, h.1, one_shl _ (by omega), if_pos (nI_le (Nat.le_refl _) (by omega))]
  · unfold f_X8_minds_K22_76
    cases hq : aPick a w (2 ^ tN a) with
    | none => rfl
    | some q =>
      have hl := aPick_lt a w _ q hq
      show bn1 (f_X8_orNone (nI q.1)) _ = some (nI q.1)
      rw [orNone_n (by omega), bs]
-- freedom
theorem i_cut (y p z : Int32) : (y &&& p) ||| (p &&& z) = (y ||| z) &&& p := by
  apply Int32.toBitVec_inj.1
  show (y.toBitVec &&& p.toBitVec) ||| (p.toBitVec &&& z.toBitVec) = (y.toBitVec ||| z.toBitVec) &&& p.toBitVec
  apply BitVec.eq_of_getLsbD_eq
  intro i hi
  simp only [BitVec.getLsbD_or, BitVec.getLsbD_and]
  cases y.toBitVec.getLsbD i <;> cases p.toBitVec.getLsbD i <;> cases z.toBitVec.getLsbD i <;> rfl
def aOne (a : AT) : Nat → Int32
  | 0 => 0
  | k + 1 => if aWay a k = true then aOne a k ||| nI k else aOne a k
def aNot (a : AT) : Nat → Int32
  | 0 => 0
  | k + 1 => if aWay a k = true then aNot a k ||| (nI k ^^^ (-1)) else aNot a k
theorem free_C (hV : AV a) (h : Sc a μ μ') : f_X2_free μ' = some (aOne a (2 ^ tN a) &&& (aNot a (2 ^ tN a) &&& (nI (2 ^ tN a) - 1))) := by
  unfold f_X2_free
  have hp := pN_le hV
  refine (bl (fun k => (aOne a k, aNot a k &&& (nI (2 ^ tN a) - 1), nI k)) (aOne a (2 ^ tN a), aNot a (2 ^ tN a) &&& (nI (2 ^ tN a) - 1)) (2 ^ tN a) ?_ (by omega) (fun k hk => ?_) ?_).trans rfl
  · show _ = (aOne a 0, (0 : Int32) &&& (nI (2 ^ tN a) - 1), nI 0)
    rw [Int32.zero_and]
    rfl
  · show f_X2_free_L6 μ' (aOne a k) (aNot a k &&& (nI (2 ^ tN a) - 1)) (nI k) = _
    unfold f_X2_free_L6
    rw [h.2.1, if_neg (nI_ge hk (by omega)), ldM_n (by omega) (by omega), bs, h.2.2 k hk]
    have c := cell_0 hV k
    unfold f_X2_free_J40
    rw [aOne, aNot]
    by_cases hw : aWay a k = true
    · rw [if_pos (c.mpr hw), if_pos hw, if_pos hw, nms, i_cut, nI_1]
    · rw [if_neg (fun z => hw (c.mp z)), if_neg hw, if_neg hw, nI_1]
  · show f_X2_free_L6 μ' (aOne a (2 ^ tN a)) (aNot a (2 ^ tN a) &&& (nI (2 ^ tN a) - 1)) (nI (2 ^ tN a)) = _
    unfold f_X2_free_L6
    rw [h.2.1, if_pos (nI_le (Nat.le_refl _) (by omega))]
theorem freedom_M (hV : AV a) (h : AM a (ν 1)) : f_X8_freedom ν = some (aOne a (2 ^ tN a) &&& (aNot a (2 ^ tN a) &&& (nI (2 ^ tN a) - 1))) := by
  unfold f_X8_freedom
  have hn := hV.1
  have hp := pN_le hV
  refine (bl (fun k => (aOne a k, aNot a k, nI k)) (aOne a (2 ^ tN a), aNot a (2 ^ tN a)) (2 ^ tN a) rfl (by omega) (fun k hk => ?_) ?_).trans ?_
  · show f_X8_freedom_L6 ν (aOne a k) (aNot a k) (nI k) = _
    unfold f_X8_freedom_L6
    rw [show ldM (ν 1) 3059 0 = some (ν 1 0) from ldM_n (k := 0) (by omega) (by omega), bs, h.1, one_shl _ (by omega), if_neg (nI_ge hk (by omega)), isWay_M hV h, bs]
    unfold f_X8_freedom_J36
    rw [aOne, aNot]
    cases hw : aWay a k with
    | true => rw [if_neg (by decide), if_pos rfl, if_pos rfl, nI_1]
    | false => rw [if_pos (by rfl), if_neg (by decide), if_neg (by decide), nI_1]
  · show f_X8_freedom_L6 ν (aOne a (2 ^ tN a)) (aNot a (2 ^ tN a)) (nI (2 ^ tN a)) = _
    unfold f_X8_freedom_L6
    rw [show ldM (ν 1) 3059 0 = some (ν 1 0) from ldM_n (k := 0) (by omega) (by omega), bs, h.1, one_shl _ (by omega), if_pos (nI_le (Nat.le_refl _) (by omega))]
  · unfold f_X8_freedom_K6_42
    rw [show ldM (ν 1) 3059 0 = some (ν 1 0) from ldM_n (k := 0) (by omega) (by omega), bs, h.1, one_shl _ (by omega), Int32.and_assoc]
-- together
def aNear (a : AT) : Nat → Option Nat
  | 0 => none
  | k + 1 => if 0 < pc (k ^^^ tM a) ∧ aWay a k = true then (match aNear a k with
    | none => some (pc (k ^^^ tM a))
    | some p => if p ≤ pc (k ^^^ tM a) then some p else some (pc (k ^^^ tM a))) else aNear a k
section PN
variable {a : AT} {k q : Nat}
theorem aNear_0 (hw : ¬ (0 < pc (k ^^^ tM a) ∧ aWay a k = true)) : aNear a (k + 1) = aNear a k := by rw [aNear, if_neg hw]
theorem aNear_n (hw : 0 < pc (k ^^^ tM a) ∧ aWay a k = true) (hq : aNear a k = none) : aNear a (k + 1) = some (pc (k ^^^ tM a)) := by rw [aNear, if_pos hw, hq]
theorem aNear_s (hw : 0 < pc (k ^^^ tM a) ∧ aWay a k = true) (hq : aNear a k = some q) (hc : q ≤ pc (k ^^^ tM a)) : aNear a (k + 1) = some q := by
  rw [aNear, if_pos hw, hq]
  exact if_pos hc
theorem aNear_t (hw : 0 < pc (k ^^^ tM a) ∧ aWay a k = true) (hq : aNear a k = some q) (hc : ¬ q ≤ pc (k ^^^ tM a)) : aNear a (k + 1) = some (pc (k ^^^ tM a)) := by
  rw [aNear, if_pos hw, hq]
  exact if_neg hc
end PN
theorem aNear_le (a : AT) : ∀ k p, aNear a k = some p → p ≤ 10
  | 0, p, h => by cases h
  | k + 1, p, h => by
    have h10 := pc_le (k ^^^ tM a)
    by_cases hw : 0 < pc (k ^^^ tM a) ∧ aWay a k = true
    · cases hq : aNear a k with
      | none =>
        rw [aNear_n hw hq] at h
        rw [← Option.some.inj h]
        exact h10
      | some q =>
        by_cases hc : q ≤ pc (k ^^^ tM a)
        · rw [aNear_s hw hq hc] at h
          rw [← Option.some.inj h]
          exact aNear_le a k q hq
        · rw [aNear_t hw hq hc] at h
          rw [← Option.some.inj h]
          exact h10
    · rw [aNear_0 hw] at h
      exact aNear_le a k p h
def nrX (none_ : Int32) (o : Option Nat) : Int32 := match o with
  | none => none_
  | some p => nI p
theorem nearest_C (hV : AV a) (h : Sc a μ μ') : f_X2_nearest (nI (tM a)) μ' = some (nrX (-1000000005) (aNear a (2 ^ tN a))) := by
  unfold f_X2_nearest
  have hp := pN_le hV
  refine (bl (fun k => (nrX (-1000000005) (aNear a k), nI k)) (nrX (-1000000005) (aNear a (2 ^ tN a))) (2 ^ tN a) rfl (by omega) (fun k hk => ?_) ?_).trans rfl
  · show f_X2_nearest_L5 (nI (tM a)) μ' (nrX (-1000000005) (aNear a k)) (nI k) = _
    unfold f_X2_nearest_L5
    have h10 := pc_le (k ^^^ tM a)
    rw [h.2.1, if_neg (nI_ge hk (by omega)), fb_xorI, bitCount_n _ (xM_lt hV (by omega)), bs, ldM_n (by omega) (by omega), bs, h.2.2 k hk]
    have c := cell_0 hV k
    unfold f_X2_nearest_J47 f_X2_nearest_J50
    rw [nI_1]
    by_cases hw : aWay a k = true
    · rw [if_pos (c.mpr hw)]
      by_cases h0 : 0 < pc (k ^^^ tM a)
      · rw [if_neg (nI_nle h0 (by omega))]
        cases hq : aNear a k with
        | none =>
          rw [aNear_n ⟨h0, hw⟩ hq]
          rfl
        | some q =>
          have hl := aNear_le a k q hq
          rw [if_neg (show ¬ nrX (-1000000005) (some q) = (-1000000005 : Int32) from nI_notE (by omega))]
          by_cases hc : q ≤ pc (k ^^^ tM a)
          · rw [if_pos (show nrX (-1000000005) (some q) ≤ nI (pc (k ^^^ tM a)) from nI_le hc (by omega)), aNear_s ⟨h0, hw⟩ hq hc]
          · rw [if_neg (show ¬ nrX (-1000000005) (some q) ≤ nI (pc (k ^^^ tM a)) from nI_ge (by omega) (by omega)), aNear_t ⟨h0, hw⟩ hq hc]
            rfl
      · rw [if_pos (by rw [show pc (k ^^^ tM a) = 0 by omega]; decide), aNear_0 (fun z => h0 z.1)]
    · rw [if_neg (fun z => hw (c.mp z)), aNear_0 (fun z => hw z.2)]
  · show f_X2_nearest_L5 (nI (tM a)) μ' (nrX (-1000000005) (aNear a (2 ^ tN a))) (nI (2 ^ tN a)) = _
    unfold f_X2_nearest_L5
    rw [h.2.1, if_pos (nI_le (Nat.le_refl _) (by omega))]
theorem together_M (hV : AV a) (h : AM a (ν 1)) : f_X8_together ν = some (if aDis a (tM a) = 0 then nrX (-1000000005) (aNear a (2 ^ tN a)) else -1000000002) := by
  unfold f_X8_together
  have hn := hV.1
  have hp := pN_le hV
  have hd := aDis_lt hV (tM a)
  rw [forNow_M hV h, bs, disorder_M hV h, bs]
  by_cases hz : aDis a (tM a) = 0
  · rw [if_pos (by rw [hz]; rfl), if_pos hz]
    refine (bl (fun k => (nrX (-1) (aNear a k), nI k)) (nrX (-1) (aNear a (2 ^ tN a))) (2 ^ tN a) rfl (by omega) (fun k hk => ?_) ?_).trans ?_
    · show f_X8_together_L20 ν (nI (tM a)) (nrX (-1) (aNear a k)) (nI k) = _
      have h10 := pc_le (k ^^^ tM a)
      unfold f_X8_together_L20
      rw [show ldM (ν 1) 3059 0 = some (ν 1 0) from ldM_n (k := 0) (by omega) (by omega), bs, h.1, one_shl _ (by omega), if_neg (nI_ge hk (by omega)), fb_xorI, manyIn_n _ (xM_lt hV (by omega)), bs, isWay_M hV h, bs]
      unfold f_X8_together_J63 f_X8_together_J68 f_X8_together_J69
      rw [nI_1]
      by_cases h0 : 0 < pc (k ^^^ tM a)
      · rw [if_neg (nI_nle h0 (by omega))]
        cases hw : aWay a k with
        | true =>
          rw [if_neg (by decide)]
          cases hq : aNear a k with
          | none =>
            rw [aNear_n ⟨h0, hw⟩ hq]
            rfl
          | some q =>
            have hl := aNear_le a k q hq
            rw [if_neg (show ¬ nrX (-1) (some q) < 0 from nI_pos (by omega))]
            by_cases hc : q ≤ pc (k ^^^ tM a)
            · rw [if_pos (show nrX (-1) (some q) ≤ nI (pc (k ^^^ tM a)) from nI_le hc (by omega)), aNear_s ⟨h0, hw⟩ hq hc]
            · rw [if_neg (show ¬ nrX (-1) (some q) ≤ nI (pc (k ^^^ tM a)) from nI_ge (by omega) (by omega)), aNear_t ⟨h0, hw⟩ hq hc]
              rfl
        | false => rw [if_pos (by rfl), aNear_0 (fun z => absurd z.2 (by rw [hw]; decide))]
      · rw [if_pos (by rw [show pc (k ^^^ tM a) = 0 by omega]; decide), aNear_0 (fun z => h0 z.1)]
    · show f_X8_together_L20 ν (nI (tM a)) (nrX (-1) (aNear a (2 ^ tN a))) (nI (2 ^ tN a)) = _
      unfold f_X8_together_L20
      rw [show ldM (ν 1) 3059 0 = some (ν 1 0) from ldM_n (k := 0) (by omega) (by omega), bs, h.1, one_shl _ (by omega), if_pos (nI_le (Nat.le_refl _) (by omega))]
    · unfold f_X8_together_K20_76
      cases hq : aNear a (2 ^ tN a) with
      | none => rfl
      | some q =>
        have hl := aNear_le a _ q hq
        show bn1 (f_X8_orNone (nI q)) _ = some (nI q)
        rw [orNone_n (by omega), bs]
  · rw [if_neg (fun z => hz ((nI_z (by omega)).mp z)), if_neg hz]
end RD
theorem Rel.tw {μ ν : Mem} (h : Rel μ ν) : ∃ a, AV a ∧ YV a ∧ AC a μ 21 ∧ AM a (ν 1) := by
  obtain ⟨⟨t, a, ⟨e1, e2, e3, e4, -⟩, -⟩, -⟩ := h
  exact ⟨a, e1, e2, e3, e4⟩
theorem Sc.same {a : AT} {μ μ' : Mem} (h : Sc a μ μ') : SameC μ μ' := fun i h1 h2 h3 => h.1 i (by omega) (by omega)
theorem Step_10 : Step Rel C7_10 C8_10 := by
  intro a μ ν hR
  obtain ⟨t, hV, -, hC, hM⟩ := hR.tw
  obtain ⟨μ', e1, e2⟩ := scan_C hV hC
  refine ⟨nI (aCnt t (2 ^ tN t)), μ', ν, ?_, ?_, hR.of e2.same (SameM.rf ν)⟩
  · unfold C7_10 f_X7_ways
    rw [e1, bs, howMany_C hV e2, bs]
  · unfold C8_10 ro
    rw [ways_M hV hM, bs]
theorem Step_11 : Step Rel C7_11 C8_11 := by
  intro a μ ν hR
  obtain ⟨t, hV, -, hC, hM⟩ := hR.tw
  obtain ⟨μ', e1, e2⟩ := scan_C hV hC
  by_cases hc : 0 ≤ (a 1).toInt ∧ (a 1).toInt ≤ 3
  · refine ⟨pkR (aPick t (a 1) (2 ^ tN t)), μ', ν, ?_, ?_, hR.of e2.same (SameM.rf ν)⟩
    · unfold C7_11 f_X7_minds
      rw [out_L (l := 0) (h := 3) _ rfl rfl, bs, if_pos hc, if_pos rfl, e1, bs, chosen_C hV hC e2, bs]
    · unfold C8_11 ro
      rw [minds_M hV hM _ hc, bs]
  · refine ⟨-1000000001, μ, ν, ?_, ?_, hR⟩
    · unfold C7_11 f_X7_minds
      rw [out_L (l := 0) (h := 3) _ rfl rfl, bs, if_neg hc, if_neg (by decide)]
    · unfold C8_11 ro f_X8_minds
      rw [isIn_L (l := 0) (h := 3) _ rfl rfl, bs, if_neg hc, if_pos rfl, bs]
theorem Step_12 : Step Rel C7_12 C8_12 := by
  intro a μ ν hR
  obtain ⟨t, hV, -, hC, hM⟩ := hR.tw
  obtain ⟨μ', e1, e2⟩ := scan_C hV hC
  refine ⟨aOne t (2 ^ tN t) &&& (aNot t (2 ^ tN t) &&& (nI (2 ^ tN t) - 1)), μ', ν, ?_, ?_, hR.of e2.same (SameM.rf ν)⟩
  · unfold C7_12 f_X7_freedom
    rw [e1, bs, free_C hV e2, bs]
  · unfold C8_12 ro
    rw [freedom_M hV hM, bs]
theorem Step_13 : Step Rel C7_13 C8_13 := by
  intro a μ ν hR
  obtain ⟨t, hV, -, hC, hM⟩ := hR.tw
  obtain ⟨μ', e1, e2⟩ := scan_C hV hC
  have hd := aDis_lt hV (tM t)
  by_cases hz : aDis t (tM t) = 0
  · refine ⟨nrX (-1000000005) (aNear t (2 ^ tN t)), μ', ν, ?_, ?_, hR.of e2.same (SameM.rf ν)⟩
    · unfold C7_13 f_X7_together
      rw [hC.2.1, unruly_C hV hC, bs, hz, if_pos (by rfl), e1, bs, (e2.ac hC).2.1, nearest_C hV e2, bs]
    · unfold C8_13 ro
      rw [together_M hV hM, if_pos hz, bs]
  · refine ⟨-1000000002, μ, ν, ?_, ?_, hR⟩
    · unfold C7_13 f_X7_together
      rw [hC.2.1, unruly_C hV hC, bs, if_neg (fun z => hz ((nI_z (by omega)).mp z))]
    · unfold C8_13 ro
      rw [together_M hV hM, if_neg hz, bs]
