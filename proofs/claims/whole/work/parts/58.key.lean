/-! TEXT -/
def wl (i : Nat) : List Nat := if i = 0 then [100, 117, 101, 115] else if i = 1 then [102, 101, 101] else [102, 105, 110, 101]
set_option maxRecDepth 100000 in
theorem wlC : ∀ i, i < 3 → ∀ j, j < strLen.getD i 0 → chM i (nI j) = some (nI ((wl i).getD j 0)) := by decide +kernel
theorem wlL : ∀ i, i < 3 → strLen.getD i 0 ≤ 4 ∧ 3 ≤ strLen.getD i 0 := by decide
theorem wl256 : ∀ i, i < 3 → ∀ j, j < strLen.getD i 0 → (wl i).getD j 0 < 256 := by decide
/-- the word between s and f -/
def isW (T : Nat → Nat) (s f i : Nat) : Prop := f - s = strLen.getD i 0 ∧ ∀ j, j < strLen.getD i 0 → T (s + j) = (wl i).getD j 0
section TX
variable {L : Nat} {T : Nat → Nat} {μ ν : Mem} {s f : Nat}
theorem here_C (hT : Tp L T μ ν) (c3 : μ 38 3 = nI s) (c4 : μ 38 4 = nI f) (hs : s ≤ f) (fL : f ≤ L) {i : Nat} (hi : i < 3) : (isW T s f i ∧ f_X3_isHere i μ = some 1) ∨ (¬ isW T s f i ∧ f_X3_isHere i μ = some 0) := by
  have hL := hT.1
  obtain ⟨l4, l3⟩ := wlL i hi
  unfold f_X3_isHere isW
  rw [c4, c3, pk_sub hs]
  by_cases c : f - s = strLen.getD i 0
  · rw [if_pos (by rw [c])]
    obtain ⟨D, d1, d2, d3⟩ := firstE (fun x => strLen.getD i 0 ≤ x ∨ T (s + x) ≠ (wl i).getD x 0) (strLen.getD i 0) (Or.inl (Nat.le_refl _))
    have hstep : ∀ k, k < D → f_X3_isHere_L20 i μ (nI k) = some (.inl (nI (k + 1))) := fun k hk => by
      have h1 := d2 k hk
      have h2 : ¬ strLen.getD i 0 ≤ k := fun z => h1 (Or.inl z)
      have h3 : T (s + k) = (wl i).getD k 0 := Classical.byContradiction (fun z => h1 (Or.inr z))
      unfold f_X3_isHere_L20
      rw [if_neg (nI_ge (by omega) (by omega)), c3, nI_add, if_neg (show ¬ (96 : Int32) ≤ nI (s + k) from nI_ge (b := 96) (by omega) (by omega)), ldM_n (by omega) (by omega), bs, (hT.2 (s + k) (by omega)).2.1, wlC i hi k (by omega), bs, if_pos (by rw [h3]), nI_1]
    by_cases cD : D = strLen.getD i 0
    · refine Or.inl ⟨⟨c, fun j hj => Classical.byContradiction (fun z => d2 j (by omega) (Or.inr z))⟩, ?_⟩
      refine (bl (fun k => nI k) (.inr ()) D rfl (by omega) hstep ?_).trans rfl
      show f_X3_isHere_L20 i μ (nI D) = _
      unfold f_X3_isHere_L20
      rw [if_pos (nI_le (by omega) (by omega))]
    · have h3 : T (s + D) ≠ (wl i).getD D 0 := by
        rcases d3 with z | z
        · omega
        · exact z
      refine Or.inr ⟨fun z => h3 (z.2 D (by omega)), ?_⟩
      refine (bl (fun k => nI k) (.inl ()) D rfl (by omega) hstep ?_).trans rfl
      show f_X3_isHere_L20 i μ (nI D) = _
      unfold f_X3_isHere_L20
      have b1 := (hT.2 (s + D) (by omega)).1
      have b2 := wl256 i hi D (by omega)
      rw [if_neg (nI_ge (by omega) (by omega)), c3, nI_add, if_neg (show ¬ (96 : Int32) ≤ nI (s + D) from nI_ge (b := 96) (by omega) (by omega)), ldM_n (by omega) (by omega), bs, (hT.2 (s + D) (by omega)).2.1, wlC i hi D (by omega), bs, if_neg (i_ne (by omega) (by omega) h3)]
  · rw [if_neg (i_ne (by omega) (by omega) c)]
    exact Or.inr ⟨fun z => c z.1, rfl⟩
theorem word_M (hT : Tp L T μ ν) (m15 : ν 0 15 = nI s) (m16 : ν 0 16 = nI f) (hK : Tk L T s f 0 (ν 0 17) (ν 0 18) (ν 0 19)) {c0 c1 c2 c3 n : Nat} (h0 : c0 < 256) (h1 : c1 < 256) (h2 : c2 < 256) (h3 : c3 < 256) (hn : n = if c3 = 0 then 3 else 4) (hl : chs c0 = 2) : f_X8_isWordAt (nI c0) (nI c1) (nI c2) (nI c3) ν = some (if f - s = n ∧ T s = c0 ∧ T (s + 1) = c1 ∧ T (s + 2) = c2 ∧ (c3 = 0 ∨ T (s + 3) = c3) then 1 else 0) := by
  have hL := hT.1
  obtain ⟨sf, fL, hK⟩ := hK
  have n34 : 3 ≤ n ∧ n ≤ 4 := by
    rw [hn]
    split <;> omega
  have J : f_X8_isWordAt_J10 (nI c0) (nI c1) (nI c2) (nI c3) ν (nI n) = some (if f - s = n ∧ T s = c0 ∧ T (s + 1) = c1 ∧ T (s + 2) = c2 ∧ (c3 = 0 ∨ T (s + 3) = c3) then 1 else 0) := by
    unfold f_X8_isWordAt_J10
    rw [m16, m15, pk_sub sf]
    by_cases x1 : ν 0 17 = 1
    · rw [if_pos x1]
      by_cases xn : f - s = n
      · have rd : ∀ j, j < n → ldM (ν 13) 96 (nI (s + j)) = some (nI (T (s + j))) := fun j hj => by rw [ldM_n (by omega) (by omega), (hT.2 (s + j) (by omega)).2.2]
        have t256 : ∀ j, j < n → T (s + j) < 256 := fun j hj => (hT.2 (s + j) (by omega)).1
        have q0 : T s < 256 := t256 0 (by omega)
        have q1 := t256 1 (by omega)
        have q2 := t256 2 (by omega)
        rw [if_pos (by rw [xn]), show ldM (ν 13) 96 (nI s) = some (nI (T s)) from rd 0 (by omega), bs, show nI s + 1 = nI (s + 1) from nI_1 s, rd 1 (by omega), bs, show nI s + 2 = nI (s + 2) from nI_add s 2, rd 2 (by omega), bs]
        by_cases y0 : T s = c0
        · rw [if_pos (show nI (T s) = nI c0 by rw [y0])]
          by_cases y1 : T (s + 1) = c1
          · rw [if_pos (show nI (T (s + 1)) = nI c1 by rw [y1])]
            by_cases y2 : T (s + 2) = c2
            · rw [if_pos (show nI (T (s + 2)) = nI c2 by rw [y2])]
              by_cases y3 : c3 = 0
              · rw [if_pos (show nI c3 = 0 by rw [y3]; rfl), if_pos ⟨xn, y0, y1, y2, Or.inl y3⟩]
              · have n4 : n = 4 := by rw [hn, if_neg y3]
                have q3 := t256 3 (by omega)
                rw [if_neg (nI_ne0 (by omega) (by omega)), show nI s + 3 = nI (s + 3) from nI_add s 3, rd 3 (by omega), bs]
                by_cases y4 : T (s + 3) = c3
                · rw [if_pos (show nI (T (s + 3)) = nI c3 by rw [y4]), if_pos ⟨xn, y0, y1, y2, Or.inr y4⟩]
                · rw [if_neg (i_ne (by omega) (by omega) y4), if_neg (fun z => z.2.2.2.2.elim y3 y4)]
            · rw [if_neg (i_ne (by omega) (by omega) y2), if_neg (fun z => y2 z.2.2.2.1)]
          · rw [if_neg (i_ne (by omega) (by omega) y1), if_neg (fun z => y1 z.2.2.1)]
        · rw [if_neg (i_ne (by omega) (by omega) y0), if_neg (fun z => y0 z.2.1)]
      · rw [if_neg (i_ne (by omega) (by omega) xn), if_neg (fun z => xn z.1)]
    · rw [if_neg x1, if_neg]
      intro z
      have hz : chs (T s) = 2 := by rw [z.2.1, hl]
      rcases hK with ⟨k1, k2, -⟩ | ⟨-, k1, -⟩ | ⟨-, -, -, -, k1, -⟩ | ⟨-, k1, -⟩
      · have := z.1
        omega
      · omega
      · rcases k1 with ⟨-, k1⟩ | ⟨k1, -⟩
        · exact x1 k1
        · exact absurd k1 (by decide)
      · omega
  unfold f_X8_isWordAt
  by_cases y3 : c3 = 0
  · rw [if_pos (show nI c3 = 0 by rw [y3]; rfl)]
    rw [if_pos y3] at hn
    rw [hn] at J ⊢
    exact J
  · rw [if_neg (nI_ne0 (by omega) (by omega))]
    rw [if_neg y3] at hn
    rw [hn] at J ⊢
    exact J
theorem isW_0 : isW T s f 0 ↔ f - s = 4 ∧ T s = 100 ∧ T (s + 1) = 117 ∧ T (s + 2) = 101 ∧ (115 = 0 ∨ T (s + 3) = 115) := by
  constructor
  · rintro ⟨h1, h2⟩
    exact ⟨h1, h2 0 (by decide), h2 1 (by decide), h2 2 (by decide), Or.inr (h2 3 (by decide))⟩
  · rintro ⟨h1, h2, h3, h4, h5⟩
    refine ⟨h1, fun j hj => ?_⟩
    have hj4 : j < 4 := hj
    rcases (by omega : j = 0 ∨ j = 1 ∨ j = 2 ∨ j = 3) with rfl | rfl | rfl | rfl
    · exact h2
    · exact h3
    · exact h4
    · exact h5.elim (fun z => absurd z (by decide)) id
theorem isW_1 : isW T s f 1 ↔ f - s = 3 ∧ T s = 102 ∧ T (s + 1) = 101 ∧ T (s + 2) = 101 ∧ (0 = 0 ∨ T (s + 3) = 0) := by
  constructor
  · rintro ⟨h1, h2⟩
    exact ⟨h1, h2 0 (by decide), h2 1 (by decide), h2 2 (by decide), Or.inl rfl⟩
  · rintro ⟨h1, h2, h3, h4, -⟩
    refine ⟨h1, fun j hj => ?_⟩
    have hj4 : j < 3 := hj
    rcases (by omega : j = 0 ∨ j = 1 ∨ j = 2) with rfl | rfl | rfl
    · exact h2
    · exact h3
    · exact h4
theorem isW_2 : isW T s f 2 ↔ f - s = 4 ∧ T s = 102 ∧ T (s + 1) = 105 ∧ T (s + 2) = 110 ∧ (101 = 0 ∨ T (s + 3) = 101) := by
  constructor
  · rintro ⟨h1, h2⟩
    exact ⟨h1, h2 0 (by decide), h2 1 (by decide), h2 2 (by decide), Or.inr (h2 3 (by decide))⟩
  · rintro ⟨h1, h2, h3, h4, h5⟩
    refine ⟨h1, fun j hj => ?_⟩
    have hj4 : j < 4 := hj
    rcases (by omega : j = 0 ∨ j = 1 ∨ j = 2 ∨ j = 3) with rfl | rfl | rfl | rfl
    · exact h2
    · exact h3
    · exact h4
    · exact h5.elim (fun z => absurd z (by decide)) id
/-- the text's first word, of both -/
theorem key_2 (hT : Tp L T μ ν) (c3 : μ 38 3 = nI s) (c4 : μ 38 4 = nI f) (m15 : ν 0 15 = nI s) (m16 : ν 0 16 = nI f) (hK : Tk L T s f 0 (ν 0 17) (ν 0 18) (ν 0 19)) : (f_X3_keyHere μ = some (-1) ∧ f_X8_key ν = some (-1)) ∨ ∃ key, key ≤ 2 ∧ f_X3_keyHere μ = some (nI key) ∧ f_X8_key ν = some (nI key) ∧ s < L ∧ ν 0 17 = 1 := by
  have hs := hK.1
  have fL := hK.2.1
  have hW : ∀ i, i < 3 → isW T s f i → s < L ∧ ν 0 17 = 1 := fun i hi hw => by
    obtain ⟨l4, l3⟩ := wlL i hi
    have h1 := hw.1
    have h2 : chs (T s) = 2 := by
      have := hw.2 0 (by omega)
      rw [Nat.add_zero] at this
      rw [this]
      exact (by decide : ∀ i, i < 3 → chs ((wl i).getD 0 0) = 2) i hi
    obtain ⟨-, -, hk⟩ := hK
    rcases hk with ⟨k1, k2, -⟩ | ⟨-, k1, -⟩ | ⟨k0, -, -, -, k1, -⟩ | ⟨-, k1, -⟩
    · omega
    · omega
    · rcases k1 with ⟨-, k1⟩ | ⟨k1, -⟩
      · exact ⟨k0, k1⟩
      · exact absurd k1 (by decide)
    · omega
  have w0 : f_X8_isWordAt 100 117 101 115 ν = _ := word_M (c0 := 100) (c1 := 117) (c2 := 101) (c3 := 115) hT m15 m16 hK (by decide) (by decide) (by decide) (by decide) (if_neg (by decide)).symm (by decide)
  have w1 : f_X8_isWordAt 102 101 101 0 ν = _ := word_M (c0 := 102) (c1 := 101) (c2 := 101) (c3 := 0) hT m15 m16 hK (by decide) (by decide) (by decide) (by decide) (if_pos rfl).symm (by decide)
  have w2 : f_X8_isWordAt 102 105 110 101 ν = _ := word_M (c0 := 102) (c1 := 105) (c2 := 110) (c3 := 101) hT m15 m16 hK (by decide) (by decide) (by decide) (by decide) (if_neg (by decide)).symm (by decide)
  unfold f_X3_keyHere f_X8_key
  rw [w0, w1, w2]
  rcases here_C hT c3 c4 hs fL (i := 0) (by omega) with ⟨a1, a2⟩ | ⟨a1, a2⟩
  · refine Or.inr ⟨0, by omega, ?_, ?_, hW 0 (by omega) a1⟩
    · rw [a2]
      rfl
    · rw [bs, i10, if_pos (isW_0.mp a1)]
      rfl
  · rw [a2, bs, bs, i10, if_pos rfl, if_neg (fun z => a1 (isW_0.mpr z))]
    rcases here_C hT c3 c4 hs fL (i := 1) (by omega) with ⟨b1, b2⟩ | ⟨b1, b2⟩
    · refine Or.inr ⟨1, by omega, ?_, ?_, hW 1 (by omega) b1⟩
      · rw [b2]
        rfl
      · rw [bs, i10, if_pos (isW_1.mp b1)]
        rfl
    · rw [b2, bs, bs, i10, if_pos rfl, if_neg (fun z => b1 (isW_1.mpr z))]
      rcases here_C hT c3 c4 hs fL (i := 2) (by omega) with ⟨d1, d2⟩ | ⟨d1, d2⟩
      · refine Or.inr ⟨2, by omega, ?_, ?_, hW 2 (by omega) d1⟩
        · rw [d2]
          rfl
        · rw [bs, i10, if_pos (isW_2.mp d1)]
          rfl
      · refine Or.inl ⟨?_, ?_⟩
        · rw [d2]
          rfl
        · rw [bs, i10, if_neg (fun z => d1 (isW_2.mpr z))]
end TX
