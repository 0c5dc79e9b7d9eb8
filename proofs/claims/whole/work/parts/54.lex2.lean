/-! THE READER: tokens of the reference -/
/-- what the reference keeps of its token -/
def Tk (L : Nat) (T : Nat → Nat) (s f g : Nat) (x17 x18 x19 : Int32) : Prop := s ≤ f ∧ f ≤ L ∧ ((s = L ∧ f = L ∧ g = 0 ∧ x17 = 0) ∨ (s < L ∧ chs (T s) = 1 ∧ f = s + 1 ∧ g = 0 ∧ x17 = 3 ∧ x19 = nI (T s)) ∨ (s < L ∧ chs (T s) = 2 ∧ s < f ∧ chs (T (f - 1)) = 2 ∧ ((g = 0 ∧ x17 = 1) ∨ (g = 1 ∧ x17 = 4)) ∧ x19 = (if f - s = 1 then nI (T s) else 0)) ∨ (s < L ∧ chs (T s) = 3 ∧ s < f ∧ (∀ j, s ≤ j → j < f → chs (T j) = 3) ∧ ((g = 0 ∧ ((f - s ≤ 4 ∧ x17 = 2 ∧ x18 = nI (numv T s (f - s))) ∨ (4 < f - s ∧ x17 = 4))) ∨ (g = 1 ∧ x17 = 4))))
def mi4 (k : Nat) : Nat := if k < 4 then k else 4
theorem numv_lt {T : Nat → Nat} {s : Nat} : ∀ k, (∀ j, j < k → chs (T (s + j)) = 3) → numv T s k < 10 ^ k
  | 0, _ => Nat.one_pos
  | k + 1, h => by
    have h1 := numv_lt k (fun j hj => h j (by omega))
    have h2 := chs_3 (h k (by omega))
    unfold numv
    rw [Nat.pow_succ]
    omega
section LY
variable {L : Nat} {T : Nat → Nat} {μ ν : Mem}
theorem numS {T : Nat → Nat} {s k : Nat} (h : chs (T (s + k)) = 3) : (10 * nI (numv T s k) + nI (T (s + k))) - 48 = nI (numv T s (k + 1)) := by
  have h2 := chs_3 h
  rw [show (10 : Int32) * nI (numv T s k) = nI (10 * numv T s k) from pk_mul 10 _, nI_add]
  exact pk_sub (b := 48) (by omega)
theorem next_M {e s f : Nat} {x17 : Int32} (hT : Tp L T μ ν) (h2 : ν 0 14 = nI L) (h4 : ν 0 16 = nI e) (h17 : ν 0 17 = x17) (hacc : 0 < e → ((x17 = 1 ∨ x17 = 2) ↔ chs (T (e - 1)) ≠ 1)) (he : e ≤ L) (hx : Lx L T e s f) : ∃ F, f_X8_nextToken ν = some (mrow ν 0 F) ∧ F 15 = nI s ∧ F 16 = nI f ∧ Tk L T s f (glu L T e s) (F 17) (F 18) (F 19) ∧ ∀ p, p ≠ 15 → p ≠ 16 → p ≠ 17 → p ≠ 18 → p ≠ 19 → F p = ν 0 p := by
  obtain ⟨x1, x2, x3, x4, x5⟩ := hx
  have hL := hT.1
  have hT' : ∀ F, Tp L T μ (mrow ν 0 F) := fun F => hT.of rfl (mrow_n (by omega))
  -- the word before, and the spaces
  have hsp : ∀ s1, f_X8_nextToken_J28 ν s1 = f_X8_nextToken_J89 (mrow ν 0 (upd (ν 0) 16 (nI s))) (if s1 = 0 then 0 else if e = s then 1 else 0) := fun s1 => by
    unfold f_X8_nextToken_J28
    refine (bl (fun k => mrow ν 0 (upd (ν 0) 16 (nI (e + k)))) (mrow ν 0 (upd (ν 0) 16 (nI s))) (s - e) ?_ (by omega) (fun k hk => ?_) ?_).trans ?_
    · show ν = mrow ν 0 (upd (ν 0) 16 (nI e))
      rw [← h4, show upd (ν 0) 16 (ν 0 16) = ν 0 from by
        funext j
        by_cases c : j = 16
        · rw [c, pk_us]
        · rw [pk_un c], mrow_id]
    · show f_X8_nextToken_L34 (mrow ν 0 (upd (ν 0) 16 (nI (e + k)))) = _
      unfold f_X8_nextToken_L34
      rw [mrow_s, pk_us, pk_un (by omega), h2, if_neg (nI_ge (by omega) (by omega)), mrow_n (by omega), ldM_n (by omega) (by omega), bs, (hT.2 (e + k) (by omega)).2.2, x3 (e + k) (by omega) (by omega), if_pos (show nI 32 = 32 from rfl), nms, mset_mrow, upd_upd, nI_1]
      rfl
    · show f_X8_nextToken_L34 (mrow ν 0 (upd (ν 0) 16 (nI (e + (s - e))))) = _
      rw [show e + (s - e) = s by omega]
      unfold f_X8_nextToken_L34
      rw [mrow_s, pk_us, pk_un (by omega), h2]
      by_cases c : s < L
      · rw [if_neg (nI_ge c (by omega)), mrow_n (by omega), ldM_n (by omega) (by omega), bs, (hT.2 s c).2.2, if_neg (show ¬ nI (T s) = 32 from i_ne (n := 32) (by have := (hT.2 s c).1; omega) (by omega) (x4 c))]
      · rw [if_pos (nI_le (by omega) (by omega))]
    · unfold f_X8_nextToken_K34_72 f_X8_nextToken_J88
      by_cases c : s1 = 0
      · rw [if_pos c, if_pos c]
      · rw [if_neg c, if_neg c, mrow_s, pk_us, h4]
        by_cases c2 : e = s
        · rw [if_pos (by rw [c2]), if_pos c2]
        · rw [if_neg (i_ne (by omega) (by omega) c2), if_neg c2]
  have hgl : f_X8_nextToken ν = f_X8_nextToken_J89 (mrow ν 0 (upd (ν 0) 16 (nI s))) (if 0 < e ∧ chs (T (e - 1)) ≠ 1 ∧ e = s then 1 else 0) := by
    unfold f_X8_nextToken f_X8_nextToken_J27 f_X8_nextToken_J23
    rw [hsp, hsp, h4, h17, if_pos rfl, if_neg one_0]
    by_cases c : e = 0
    · rw [c, if_pos (show nI 0 ≤ 0 by decide), if_neg (by omega)]
    · rw [if_neg (nI_nle (by omega) (by omega))]
      have ha := hacc (by omega)
      by_cases c1 : x17 = 1
      · have := ha.mp (Or.inl c1)
        rw [if_pos c1]
        by_cases c2 : e = s
        · rw [if_pos c2, if_pos ⟨by omega, this, c2⟩]
        · rw [if_neg c2, if_neg (fun z => c2 z.2.2)]
      · rw [if_neg c1]
        by_cases c3 : x17 = 2
        · have := ha.mp (Or.inr c3)
          rw [if_pos c3]
          by_cases c2 : e = s
          · rw [if_pos c2, if_pos ⟨by omega, this, c2⟩]
          · rw [if_neg c2, if_neg (fun z => c2 z.2.2)]
        · rw [if_neg c3, if_neg (fun z => (ha.mpr z.2.1).elim c1 c3)]
  rw [hgl]
  generalize hs3 : (if 0 < e ∧ chs (T (e - 1)) ≠ 1 ∧ e = s then (1 : Int32) else 0) = s3
  -- the two places of the token's begin and end
  have hG : ∀ p, p ≠ 15 → p ≠ 16 → upd (upd (ν 0) 16 (nI s)) 15 (nI s) p = ν 0 p := fun p p1 p2 => by rw [pk_un p1, pk_un p2]
  have g15 : upd (upd (ν 0) 16 (nI s)) 15 (nI s) 15 = nI s := pk_us
  have g16 : upd (upd (ν 0) 16 (nI s)) 15 (nI s) 16 = nI s := by rw [pk_un (by omega), pk_us]
  have g14 : upd (upd (ν 0) 16 (nI s)) 15 (nI s) 14 = nI L := by rw [hG _ (by omega) (by omega), h2]
  unfold f_X8_nextToken_J89
  rw [nms, mrow_s, pk_us, mset_mrow, mrow_s]
  generalize upd (upd (ν 0) 16 (nI s)) 15 (nI s) = G at hG g15 g16 g14
  rw [g15, g14]
  have b14 : ∀ x, upd G 16 x 14 = nI L := fun x => by rw [pk_un (by omega), g14]
  have b15 : ∀ x, upd G 16 x 15 = nI s := fun x => by rw [pk_un (by omega), g15]
  rcases x5 with ⟨y1, y2⟩ | ⟨y1, y2, y3⟩ | ⟨y1, y2, y3, y4, y5, y6⟩
  · rw [if_pos (by rw [y1]), nms, mset_mrow]
    refine ⟨_, rfl, by rw [pk_un (by omega), g15], by rw [pk_un (by omega), g16]; congr 1; omega, ⟨by omega, by omega, Or.inl ⟨y1, y2, if_neg (by omega), pk_us⟩⟩, fun p p1 p2 p3 p4 p5 => by rw [pk_un p3, hG p p1 p2]⟩
  · rw [if_neg (i_ne (by omega) (by omega) (by omega)), isLet_M (hT' _) (by rw [mrow_s, g14]) s (by omega), bs, isDig_M (hT' _) (by rw [mrow_s, g14]) s (by omega), bs, if_neg (show ¬ (s < L ∧ chs (T s) = 2) by omega), if_neg (show ¬ (s < L ∧ chs (T s) = 3) by omega), if_pos rfl, if_pos rfl, nms, mset_mrow, mrow_n (by omega), mrow_s, pk_un (by omega), g15, ldM_n (by omega) (by omega), bs, (hT.2 s y1).2.2, nms, mset_mrow, nms, mrow_s, mset_mrow, pk_un (by omega), pk_un (by omega), g16, nI_1]
    refine ⟨_, rfl, by rw [pk_un (by omega), pk_un (by omega), pk_un (by omega), g15], by rw [pk_us, y3], ⟨by omega, by omega, Or.inr (Or.inl ⟨y1, y2, y3, if_neg (fun z => z.2.2.2.1 y2), by rw [pk_un (by omega), pk_un (by omega), pk_us], by rw [pk_un (by omega), pk_us]⟩)⟩, fun p p1 p2 p3 p4 p5 => by rw [pk_un p2, pk_un p5, pk_un p3, hG p p1 p2]⟩
  · have hgl2 : (s3 = 0 ∧ glu L T e s = 0) ∨ (s3 = 1 ∧ glu L T e s = 1) := by
      by_cases c : 0 < e ∧ chs (T (e - 1)) ≠ 1 ∧ e = s
      · rw [if_pos c] at hs3
        exact Or.inr ⟨hs3.symm, if_pos ⟨c.1, c.2.1, y1, y2, c.2.2.symm⟩⟩
      · rw [if_neg c] at hs3
        exact Or.inl ⟨hs3.symm, if_neg (fun z => c ⟨z.1, z.2.1, z.2.2.2.2.symm⟩)⟩
    rw [if_neg (i_ne (by omega) (by omega) (by omega)), isLet_M (hT' _) (by rw [mrow_s, g14]) s (by omega), bs, isDig_M (hT' _) (by rw [mrow_s, g14]) s (by omega), bs]
    by_cases c2 : chs (T s) = 2
    · rw [i10, if_pos (show s < L ∧ chs (T s) = 2 from ⟨y1, c2⟩)]
      refine ⟨upd (upd (upd G 16 (nI f)) 17 (if s3 = 0 then 1 else 4)) 19 (if f - s = 1 then nI (T s) else 0), (bl (fun k => mrow ν 0 (upd G 16 (nI (s + k)))) (mrow ν 0 (upd G 16 (nI f))) (f - s) ?_ (by omega) (fun k hk => ?_) ?_).trans ?_, by rw [pk_un (by omega), pk_un (by omega), b15], by rw [pk_un (by omega), pk_un (by omega), pk_us], ⟨by omega, y4, Or.inr (Or.inr (Or.inl ⟨y1, c2, y3, by rw [y5 (f - 1) (by omega) (by omega), c2], ?_, by rw [pk_us]⟩))⟩, fun p p1 p2 p3 p4 p5 => by rw [pk_un p5, pk_un p3, pk_un p2, hG p p1 p2]⟩
      · show mrow ν 0 G = mrow ν 0 (upd G 16 (nI s))
        congr 1
        funext j
        by_cases c : j = 16
        · rw [c, pk_us, g16]
        · rw [pk_un c]
      · show f_X8_nextToken_L128 (mrow ν 0 (upd G 16 (nI (s + k)))) = _
        unfold f_X8_nextToken_L128
        rw [mrow_s, pk_us, isLet_M (hT' _) (by rw [mrow_s, b14]) _ (by omega), bs, i10, if_pos ⟨by omega, by rw [y5 (s + k) (by omega) (by omega), c2]⟩, nms, mset_mrow, upd_upd, nI_1]
        rfl
      · show f_X8_nextToken_L128 (mrow ν 0 (upd G 16 (nI (s + (f - s))))) = _
        rw [show s + (f - s) = f by omega]
        unfold f_X8_nextToken_L128
        rw [mrow_s, pk_us, isLet_M (hT' _) (by rw [mrow_s, b14]) _ (by omega), bs, i10, if_neg (fun z => y6 z.1 (by rw [z.2, c2]))]
      · have J : ∀ t, f_X8_nextToken_J162 (mrow ν 0 (upd G 16 (nI f))) t = some (mrow ν 0 (upd (upd (upd G 16 (nI f)) 17 t) 19 (if f - s = 1 then nI (T s) else 0))) := fun t => by
          unfold f_X8_nextToken_J162
          rw [nms, mset_mrow, mrow_s, pk_un (by omega), pk_us, pk_un (by omega), b15, pk_sub (by omega), mrow_n (by omega), ldM_n (by omega) (by omega), bs, (hT.2 s y1).2.2, nms, nms, mset_mrow, mset_mrow]
          by_cases c : f - s = 1
          · rw [if_pos c, if_pos (by rw [c]; rfl)]
          · rw [if_neg c, if_neg (show ¬ nI (f - s) = 1 from i_ne (n := 1) (by omega) (by omega) c)]
        unfold f_X8_nextToken_K128_152
        rw [J, J]
        by_cases c : s3 = 0
        · rw [if_pos c, if_pos c]
        · rw [if_neg c, if_neg c]
      · rw [pk_un (by omega), pk_us]
        rcases hgl2 with ⟨z1, z2⟩ | ⟨z1, z2⟩
        · exact Or.inl ⟨z2, if_pos z1⟩
        · exact Or.inr ⟨z2, if_neg (by rw [z1]; decide)⟩
    · have c3 : chs (T s) = 3 := by
        rcases chs_1 (T s) with h | h | h
        · exact absurd h y2
        · exact absurd h c2
        · exact h
      rw [i10, if_neg (show ¬ (s < L ∧ chs (T s) = 2) from fun z => c2 z.2), i10, if_pos (show s < L ∧ chs (T s) = 3 from ⟨y1, c3⟩), nms, mset_mrow]
      have d14 : ∀ x y, upd (upd G 18 x) 16 y 14 = nI L := fun x y => by rw [pk_un (by omega), pk_un (by omega), g14]
      have d15 : ∀ x y, upd (upd G 18 x) 16 y 15 = nI s := fun x y => by rw [pk_un (by omega), pk_un (by omega), g15]
      have dd : ∀ x y x' y', upd (upd (upd (upd G 18 x) 16 y) 18 x') 16 y' = upd (upd G 18 x') 16 y' := fun x y x' y' => by
        funext j
        by_cases c : j = 16
        · rw [c, pk_us, pk_us]
        · rw [pk_un c, pk_un c]
          by_cases c' : j = 18
          · rw [c', pk_us, pk_us]
          · rw [pk_un c', pk_un c, pk_un c', pk_un c']
      have dg : ∀ j, j < f - s → chs (T (s + j)) = 3 := fun j hj => by rw [y5 (s + j) (by omega) (by omega), c3]
      refine ⟨upd (upd (upd G 18 (nI (numv T s (mi4 (f - s))))) 16 (nI f)) 17 (if s3 = 0 then (if f - s ≤ 4 then 2 else 4) else 4), (bl (fun k => mrow ν 0 (upd (upd G 18 (nI (numv T s (mi4 k)))) 16 (nI (s + k)))) (mrow ν 0 (upd (upd G 18 (nI (numv T s (mi4 (f - s))))) 16 (nI f))) (f - s) ?_ (by omega) (fun k hk => ?_) ?_).trans ?_, by rw [pk_un (by omega), d15], by rw [pk_un (by omega), pk_us], ⟨by omega, y4, Or.inr (Or.inr (Or.inr ⟨y1, c3, y3, fun j j1 j2 => by rw [y5 j j1 j2, c3], ?_⟩))⟩, fun p p1 p2 p3 p4 p5 => by rw [pk_un p3, pk_un p2, pk_un p4, hG p p1 p2]⟩
      · show mrow ν 0 (upd G 18 0) = mrow ν 0 (upd (upd G 18 (nI (numv T s (mi4 0)))) 16 (nI s))
        congr 1
        funext j
        by_cases c : j = 16
        · rw [c, pk_us, pk_un (by omega), g16]
        · rw [pk_un c]
          rfl
      · show f_X8_nextToken_L214 (mrow ν 0 (upd (upd G 18 (nI (numv T s (mi4 k)))) 16 (nI (s + k)))) = _
        unfold f_X8_nextToken_L214 f_X8_nextToken_J266
        rw [mrow_s, pk_us, isDig_M (hT' _) (by rw [mrow_s, d14]) _ (by omega), bs, i10, if_pos ⟨by omega, dg k hk⟩, d15, pk_sub (by omega), show s + k - s = k by omega, mrow_n (by omega), ldM_n (by omega) (by omega), bs, (hT.2 (s + k) (by omega)).2.2, pk_un (by omega), pk_us, nms, mset_mrow, nms, mset_mrow, mrow_s, nms, mset_mrow, nms, mset_mrow, mrow_s, pk_un (by omega), pk_us, pk_un (by omega), pk_us, nI_1, dd, dd]
        by_cases c : 4 ≤ k
        · rw [if_pos (show (4 : Int32) ≤ nI k from nI_le (a := 4) c (by omega)), show mi4 (k + 1) = mi4 k from by unfold mi4; rw [if_neg (by omega), if_neg (by omega)]]
          rfl
        · rw [if_neg (show ¬ (4 : Int32) ≤ nI k from nI_ge (b := 4) (by omega) (by omega)), show mi4 k = k from if_pos (by omega), numS (dg k hk), show mi4 (k + 1) = k + 1 from by unfold mi4; split <;> omega]
          rfl
      · show f_X8_nextToken_L214 (mrow ν 0 (upd (upd G 18 (nI (numv T s (mi4 (f - s))))) 16 (nI (s + (f - s))))) = _
        rw [show s + (f - s) = f by omega]
        unfold f_X8_nextToken_L214
        rw [mrow_s, pk_us, isDig_M (hT' _) (by rw [mrow_s, d14]) _ (by omega), bs, i10, if_neg (fun z => y6 z.1 (by rw [z.2, c3]))]
      · unfold f_X8_nextToken_K214_282
        rw [mrow_s, pk_us, d15, pk_sub (by omega), nms, nms, mset_mrow, mset_mrow]
        by_cases c : s3 = 0
        · rw [if_pos c, if_pos c]
          by_cases c4 : f - s ≤ 4
          · rw [if_pos c4, if_pos (show nI (f - s) ≤ 4 from nI_le (b := 4) c4 (by omega))]
          · rw [if_neg c4, if_neg (show ¬ nI (f - s) ≤ 4 from nI_ge (a := 4) (by omega) (by omega))]
        · rw [if_neg c, if_neg c]
      · rw [pk_us, pk_un (by omega), pk_un (by omega), pk_us]
        rcases hgl2 with ⟨z1, z2⟩ | ⟨z1, z2⟩
        · refine Or.inl ⟨z2, ?_⟩
          rw [if_pos z1]
          by_cases c4 : f - s ≤ 4
          · refine Or.inl ⟨c4, if_pos c4, ?_⟩
            rw [show mi4 (f - s) = f - s from by unfold mi4; split <;> omega]
          · exact Or.inr ⟨by omega, if_neg c4⟩
        · exact Or.inr ⟨z2, if_neg (by rw [z1]; decide)⟩
end LY
