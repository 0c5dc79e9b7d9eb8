/-! THE READER: tokens -/
theorem upd_upd (f : Nat → Int32) (k : Nat) (x y : Int32) : upd (upd f k x) k y = upd f k y := by
  funext j
  by_cases h : j = k
  · rw [h, pk_us, pk_us]
  · rw [pk_un h, pk_un h, pk_un h]
/-- what a sign is: 2 a letter, 3 a digit, 1 any other -/
def chs (c : Nat) : Nat := if 97 ≤ c ∧ c ≤ 122 then 2 else if 48 ≤ c ∧ c ≤ 57 then 3 else 1
theorem chs_1 (c : Nat) : chs c = 1 ∨ chs c = 2 ∨ chs c = 3 := by
  unfold chs
  repeat' split
  · exact Or.inr (Or.inl rfl)
  · exact Or.inr (Or.inr rfl)
  · exact Or.inl rfl
theorem chs_2 {c : Nat} (h : chs c = 2) : 97 ≤ c ∧ c ≤ 122 := by
  unfold chs at h
  split at h
  · assumption
  · split at h <;> omega
theorem chs_3 {c : Nat} (h : chs c = 3) : 48 ≤ c ∧ c ≤ 57 := by
  unfold chs at h
  split at h
  · omega
  · split at h
    · assumption
    · omega
/-- the first digits' number -/
def numv (T : Nat → Nat) (s : Nat) : Nat → Nat
  | 0 => 0
  | k + 1 => 10 * numv T s k + T (s + k) - 48
/-- from e: s the next token's begin, f its end -/
def Lx (L : Nat) (T : Nat → Nat) (e s f : Nat) : Prop := e ≤ s ∧ s ≤ L ∧ (∀ j, e ≤ j → j < s → T j = 32) ∧ (s < L → T s ≠ 32) ∧ ((s = L ∧ f = L) ∨ (s < L ∧ chs (T s) = 1 ∧ f = s + 1) ∨ (s < L ∧ chs (T s) ≠ 1 ∧ s < f ∧ f ≤ L ∧ (∀ j, s ≤ j → j < f → chs (T j) = chs (T s)) ∧ (f < L → chs (T f) ≠ chs (T s))))
theorem lexE (L : Nat) (T : Nat → Nat) {e : Nat} (he : e ≤ L) : ∃ s f, Lx L T e s f := by
  obtain ⟨D, d1, d2, d3⟩ := firstE (fun x => L ≤ e + x ∨ T (e + x) ≠ 32) (L - e) (Or.inl (by omega))
  have hs : ∀ j, e ≤ j → j < e + D → T j = 32 := fun j h1 h2 => by
    have := d2 (j - e) (by omega)
    rw [show e + (j - e) = j by omega] at this
    exact Classical.byContradiction (fun z => this (Or.inr z))
  have hn : e + D < L → T (e + D) ≠ 32 := fun h => by
    rcases d3 with z | z
    · omega
    · exact z
  by_cases c : e + D = L
  · exact ⟨e + D, L, by omega, by omega, hs, hn, Or.inl ⟨c, rfl⟩⟩
  · by_cases c1 : chs (T (e + D)) = 1
    · exact ⟨e + D, e + D + 1, by omega, by omega, hs, hn, Or.inr (Or.inl ⟨by omega, c1, rfl⟩)⟩
    · obtain ⟨G, g1, g2, g3⟩ := firstE (fun x => L ≤ e + D + 1 + x ∨ chs (T (e + D + 1 + x)) ≠ chs (T (e + D))) (L - (e + D + 1)) (Or.inl (by omega))
      refine ⟨e + D, e + D + 1 + G, by omega, by omega, hs, hn, Or.inr (Or.inr ⟨by omega, c1, by omega, by omega, fun j h1 h2 => ?_, fun h => ?_⟩)⟩
      · by_cases cj : j = e + D
        · rw [cj]
        · have := g2 (j - (e + D + 1)) (by omega)
          rw [show e + D + 1 + (j - (e + D + 1)) = j by omega] at this
          exact Classical.byContradiction (fun z => this (Or.inr z))
      · rcases g3 with z | z
        · omega
        · exact z
/-- the tape in both -/
def Tp (L : Nat) (T : Nat → Nat) (μ ν : Mem) : Prop := L ≤ 96 ∧ ∀ j, j < L → T j < 256 ∧ μ 39 j = nI (T j) ∧ ν 13 j = nI (T j)
section LX
variable {L : Nat} {T : Nat → Nat} {μ ν : Mem}
theorem sortAt_C (hT : Tp L T μ ν) (h2 : μ 38 2 = nI L) (i : Nat) (hi : i ≤ 96) : f_X3_sortAt (nI i) μ = some (nI (if i < L then chs (T i) else 0)) := by
  unfold f_X3_sortAt f_X3_sortAt_J35
  have hL := hT.1
  rw [if_neg (nI_pos (by omega)), h2]
  by_cases c : i < L
  · obtain ⟨t1, t2, -⟩ := hT.2 i c
    rw [if_pos (nI_lt c (by omega)), if_pos c, ldM_n (by omega) (by omega), bs, t2]
    unfold chs
    by_cases c1 : 97 ≤ T i
    · rw [if_neg (show ¬ nI (T i) < 97 from nI_nlt (b := 97) c1 (by omega))]
      by_cases c2 : T i ≤ 122
      · rw [if_neg (show ¬ (122 : Int32) < nI (T i) from nI_nlt (a := 122) c2 (by omega)), if_pos ⟨c1, c2⟩]
        rfl
      · rw [if_pos (show (122 : Int32) < nI (T i) from nI_lt (a := 122) (by omega) (by omega)), if_neg (show ¬ nI (T i) < 48 from nI_nlt (b := 48) (by omega) (by omega)), if_pos (show (57 : Int32) < nI (T i) from nI_lt (a := 57) (by omega) (by omega)), if_neg (by omega), if_neg (by omega)]
        rfl
    · rw [if_pos (show nI (T i) < 97 from nI_lt (b := 97) (by omega) (by omega)), if_neg (show ¬ (97 ≤ T i ∧ T i ≤ 122) by omega)]
      by_cases c2 : 48 ≤ T i
      · rw [if_neg (show ¬ nI (T i) < 48 from nI_nlt (b := 48) c2 (by omega))]
        by_cases c3 : T i ≤ 57
        · rw [if_neg (show ¬ (57 : Int32) < nI (T i) from nI_nlt (a := 57) c3 (by omega)), if_pos ⟨c2, c3⟩]
          rfl
        · rw [if_pos (show (57 : Int32) < nI (T i) from nI_lt (a := 57) (by omega) (by omega)), if_neg (by omega)]
          rfl
      · rw [if_pos (show nI (T i) < 48 from nI_lt (b := 48) (by omega) (by omega)), if_neg (by omega)]
        rfl
  · rw [if_neg (nI_nlt (by omega) (by omega)), if_neg c]
    rfl
theorem isLet_M (hT : Tp L T μ ν) (h2 : ν 0 14 = nI L) (i : Nat) (hi : i ≤ 96) : f_X8_isLetter (nI i) ν = some (if i < L ∧ chs (T i) = 2 then 1 else 0) := by
  unfold f_X8_isLetter
  have hL := hT.1
  rw [h2]
  by_cases c : i < L
  · obtain ⟨t1, -, t2⟩ := hT.2 i c
    rw [if_neg (nI_ge c (by omega)), ldM_n (by omega) (by omega), bs, t2, isIn_L (l := 97) (h := 122) _ rfl rfl, bs, i10, nI_toInt (by omega)]
    by_cases c1 : 97 ≤ T i ∧ T i ≤ 122
    · rw [if_pos (by omega), if_pos ⟨c, by unfold chs; rw [if_pos c1]⟩]
    · rw [if_neg (by omega), if_neg (fun z => c1 (chs_2 z.2))]
  · rw [if_pos (nI_le (by omega) (by omega)), if_neg (fun z => c z.1)]
theorem isDig_M (hT : Tp L T μ ν) (h2 : ν 0 14 = nI L) (i : Nat) (hi : i ≤ 96) : f_X8_isDigit (nI i) ν = some (if i < L ∧ chs (T i) = 3 then 1 else 0) := by
  unfold f_X8_isDigit
  have hL := hT.1
  rw [h2]
  by_cases c : i < L
  · obtain ⟨t1, -, t2⟩ := hT.2 i c
    rw [if_neg (nI_ge c (by omega)), ldM_n (by omega) (by omega), bs, t2, isIn_L (l := 48) (h := 57) _ rfl rfl, bs, i10, nI_toInt (by omega)]
    by_cases c1 : 48 ≤ T i ∧ T i ≤ 57
    · rw [if_pos (by omega), if_pos ⟨c, by unfold chs; rw [if_neg (by omega), if_pos c1]⟩]
    · rw [if_neg (by omega), if_neg (fun z => c1 (chs_3 z.2))]
  · rw [if_pos (nI_le (by omega) (by omega)), if_neg (fun z => c z.1)]
/-- is the token at s glued to what ended at e? -/
def glu (L : Nat) (T : Nat → Nat) (e s : Nat) : Nat := if 0 < e ∧ chs (T (e - 1)) ≠ 1 ∧ s < L ∧ chs (T s) ≠ 1 ∧ s = e then 1 else 0
theorem Tp.of {μ' ν' : Mem} (hT : Tp L T μ ν) (h1 : μ' 39 = μ 39) (h2 : ν' 13 = ν 13) : Tp L T μ' ν' := ⟨hT.1, fun j hj => by rw [h1, h2]; exact hT.2 j hj⟩
theorem next_C {e s f : Nat} (hT : Tp L T μ ν) (h2 : μ 38 2 = nI L) (h4 : μ 38 4 = nI e) (he : e ≤ L) (hx : Lx L T e s f) : f_X3_next μ = some (mrow μ 38 (upd (upd (upd (μ 38) 3 (nI s)) 4 (nI f)) 5 (nI (glu L T e s)))) := by
  obtain ⟨x1, x2, x3, x4, x5⟩ := hx
  have hL := hT.1
  have hv : f_X3_sortAt (nI e - 1) μ = some (nI (if e = 0 then 0 else chs (T (e - 1)))) := by
    by_cases c : e = 0
    · rw [c, if_pos rfl]
      rfl
    · rw [if_neg c, m1_n (by omega), sortAt_C hT h2 _ (by omega), if_pos (by omega)]
  have hV : ∀ c d : Nat, c ≤ 3 → d ≤ 3 → (nI c ≤ 1 ↔ c ≤ 1) := fun c d h _ => nI_leI (b := 1) (by omega) (by omega)
  have hF2 : ∀ x, upd (μ 38) 3 x 2 = nI L := fun x => by rw [pk_un (by omega), h2]
  have hF4 : ∀ x y, upd (upd (μ 38) 3 x) 4 y 2 = nI L := fun x y => by rw [pk_un (by omega), hF2]
  have hT' : ∀ F, Tp L T (mrow μ 38 F) ν := fun F => hT.of (mrow_n (by omega)) rfl
  unfold f_X3_next
  rw [h4, hv, bs, nms]
  refine (bl (fun k => mrow μ 38 (upd (μ 38) 3 (nI (e + k)))) (mrow μ 38 (upd (μ 38) 3 (nI s))) (s - e) rfl (by omega) (fun k hk => ?_) ?_).trans ?_
  · show f_X3_next_L18 (mrow μ 38 (upd (μ 38) 3 (nI (e + k)))) = _
    unfold f_X3_next_L18
    rw [mrow_s, hF2, pk_us, if_neg (nI_ge (by omega) (by omega)), mrow_n (by omega), ldM_n (by omega) (by omega), bs, (hT.2 (e + k) (by omega)).2.1, x3 (e + k) (by omega) (by omega), if_pos (show nI 32 = 32 from rfl), nms, mset_mrow, upd_upd, nI_1]
    rfl
  · show f_X3_next_L18 (mrow μ 38 (upd (μ 38) 3 (nI (e + (s - e))))) = _
    rw [show e + (s - e) = s by omega]
    unfold f_X3_next_L18
    rw [mrow_s, hF2, pk_us]
    by_cases c : s < L
    · rw [if_neg (nI_ge c (by omega)), mrow_n (by omega), ldM_n (by omega) (by omega), bs, (hT.2 s c).2.1, if_neg (show ¬ nI (T s) = 32 from i_ne (n := 32) (by have := (hT.2 s c).1; omega) (by omega) (x4 c))]
    · rw [if_pos (nI_le (by omega) (by omega))]
  · unfold f_X3_next_K18_56 f_X3_next_J83
    rw [mrow_s, pk_us, sortAt_C (hT' _) (by rw [mrow_s, hF2]) s (by omega), bs]
    have V1 : (if e = 0 then 0 else chs (T (e - 1))) ≤ 3 := by
      split
      · omega
      · rcases chs_1 (T (e - 1)) with h | h | h <;> omega
    rcases x5 with ⟨y1, y2⟩ | ⟨y1, y2, y3⟩ | ⟨y1, y2, y3, y4, y5, y6⟩
    · rw [if_neg (show ¬ s < L by omega), if_pos (show nI 0 = 0 from rfl), nms, mset_mrow]
      refine (bl (fun _ => mrow μ 38 (upd (upd (μ 38) 3 (nI s)) 4 (nI s))) (mrow μ 38 (upd (upd (μ 38) 3 (nI s)) 4 (nI s))) 0 rfl (by omega) (fun k hk => absurd hk (Nat.not_lt_zero k)) ?_).trans ?_
      · show f_X3_next_L86 (nI 0) _ = _
        unfold f_X3_next_L86
        exact if_pos (by decide)
      · unfold f_X3_next_K86_127
        rw [mrow_s, if_pos (show nI 0 ≤ 1 by decide), nms, mset_mrow, ite_self, show glu L T e s = 0 from if_neg (by omega), show f = s by omega]
        rfl
    · rw [if_pos y1, y2, if_neg (show ¬ nI 1 = 0 by decide), nms, mset_mrow, nI_1]
      refine (bl (fun _ => mrow μ 38 (upd (upd (μ 38) 3 (nI s)) 4 (nI (s + 1)))) (mrow μ 38 (upd (upd (μ 38) 3 (nI s)) 4 (nI (s + 1)))) 0 rfl (by omega) (fun k hk => absurd hk (Nat.not_lt_zero k)) ?_).trans ?_
      · show f_X3_next_L86 (nI 1) _ = _
        unfold f_X3_next_L86
        exact if_pos (by decide)
      · unfold f_X3_next_K86_127
        rw [mrow_s, if_pos (show nI 1 ≤ 1 by decide), nms, mset_mrow, ite_self, show glu L T e s = 0 from if_neg (fun z => z.2.2.2.1 y2), y3]
        rfl
    · have C3 : chs (T s) = 2 ∨ chs (T s) = 3 := by
        rcases chs_1 (T s) with h | h | h
        · exact absurd h y2
        · exact Or.inl h
        · exact Or.inr h
      rw [if_pos y1, if_neg (show ¬ nI (chs (T s)) = 0 from nI_ne0 (by omega) (by omega)), nms, mset_mrow, nI_1]
      refine (bl (fun k => mrow μ 38 (upd (upd (μ 38) 3 (nI s)) 4 (nI (s + 1 + k)))) (mrow μ 38 (upd (upd (μ 38) 3 (nI s)) 4 (nI f))) (f - (s + 1)) rfl (by omega) (fun k hk => ?_) ?_).trans ?_
      · show f_X3_next_L86 (nI (chs (T s))) (mrow μ 38 (upd (upd (μ 38) 3 (nI s)) 4 (nI (s + 1 + k)))) = _
        unfold f_X3_next_L86
        rw [if_neg (show ¬ nI (chs (T s)) ≤ 1 from nI_ge (a := 1) (by omega) (by omega)), mrow_s, hF4, pk_us, if_neg (nI_ge (by omega) (by omega)), sortAt_C (hT' _) (by rw [mrow_s, hF4]) _ (by omega), bs, if_pos (show s + 1 + k < L by omega), y5 (s + 1 + k) (by omega) (by omega), if_pos rfl, nms, mset_mrow, upd_upd, nI_1]
        rfl
      · show f_X3_next_L86 (nI (chs (T s))) (mrow μ 38 (upd (upd (μ 38) 3 (nI s)) 4 (nI (s + 1 + (f - (s + 1)))))) = _
        rw [show s + 1 + (f - (s + 1)) = f by omega]
        unfold f_X3_next_L86
        rw [if_neg (show ¬ nI (chs (T s)) ≤ 1 from nI_ge (a := 1) (by omega) (by omega)), mrow_s, hF4, pk_us]
        by_cases c : f < L
        · have cf : chs (T f) ≤ 3 := by rcases chs_1 (T f) with h | h | h <;> omega
          rw [if_neg (nI_ge c (by omega)), sortAt_C (hT' _) (by rw [mrow_s, hF4]) _ (by omega), bs, if_pos c, if_neg (i_ne (by omega) (by omega) (y6 c))]
        · rw [if_pos (nI_le (by omega) (by omega))]
      · unfold f_X3_next_K86_127
        rw [mrow_s, nms, nms, mset_mrow, mset_mrow, h4]
        by_cases ce : e = 0
        · rw [if_pos ce, if_pos (show nI 0 ≤ 1 by decide), show glu L T e s = 0 from if_neg (by omega)]
          rfl
        · rw [if_neg ce]
          by_cases c1 : chs (T (e - 1)) = 1
          · rw [c1, if_pos (show nI 1 ≤ 1 by decide), show glu L T e s = 0 from if_neg (fun z => z.2.1 c1)]
            rfl
          · have d1 : 2 ≤ chs (T (e - 1)) := by rcases chs_1 (T (e - 1)) with h | h | h <;> omega
            rw [if_neg ce] at V1
            rw [if_neg (show ¬ nI (chs (T (e - 1))) ≤ 1 from nI_ge (a := 1) (by omega) (by omega)), if_neg (show ¬ nI (chs (T s)) ≤ 1 from nI_ge (a := 1) (by omega) (by omega)), pk_un (by omega), pk_us]
            by_cases c2 : s = e
            · rw [if_pos (by rw [c2]), show glu L T e s = 1 from if_pos ⟨by omega, c1, y1, y2, c2⟩]
              rfl
            · rw [if_neg (i_ne (by omega) (by omega) c2), show glu L T e s = 0 from if_neg (fun z => c2 z.2.2.2.2)]
              rfl
end LX
