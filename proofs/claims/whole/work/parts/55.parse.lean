/-! THE READER: steps laid, pieces -/
def ap (S : Nat → Nat × Nat) (k : Nat) (q : Nat × Nat) : Nat → Nat × Nat := fun j => if j = k then q else S j
theorem dep_of {S S' : Nat → Nat × Nat} : ∀ k, (∀ j, j < k → S' j = S j) → dep S' k = dep S k
  | 0, _ => rfl
  | k + 1, h => by
    have e := dep_of k (fun j hj => h j (by omega))
    unfold dep
    rw [h k (by omega), e]
theorem ap_n {S : Nat → Nat × Nat} {k j : Nat} {q : Nat × Nat} (h : j ≠ k) : ap S k q j = S j := if_neg h
theorem ap_s {S : Nat → Nat × Nat} {k : Nat} {q : Nat × Nat} : ap S k q k = q := if_pos rfl
theorem dep_ap (S : Nat → Nat × Nat) {k j : Nat} (q : Nat × Nat) (h : j ≤ k) : dep (ap S k q) j = dep S j := dep_of j (fun i hi => ap_n (by omega))
theorem dep_s (S : Nat → Nat × Nat) (k : Nat) (q : Nat × Nat) : dep (ap S k q) (k + 1) = if q.1 = 2 then (if q.2 = 33 then dep S k else dep S k - 1) else dep S k + 1 := by
  show (if (ap S k q k).1 = 2 then (if (ap S k q k).2 = 33 then dep (ap S k q) k else dep (ap S k q) k - 1) else dep (ap S k q) k + 1) = _
  rw [ap_s, dep_ap S q (Nat.le_refl k)]
/-- steps that can be -/
def VS (key : Nat) (S : Nat → Nat × Nat) (k : Nat) : Prop := (∀ j, j < k → okS key (S j)) ∧ ∀ j, j < k → (S j).1 = 2 → ((S j).2 = 33 ∧ 1 ≤ dep S j) ∨ ((S j).2 ≠ 33 ∧ 2 ≤ dep S j)
theorem VS.ap {key : Nat} {S : Nat → Nat × Nat} {k : Nat} (h : VS key S k) {q : Nat × Nat} (ho : okS key q) (hd : q.1 = 2 → (q.2 = 33 ∧ 1 ≤ dep S k) ∨ (q.2 ≠ 33 ∧ 2 ≤ dep S k)) : VS key (ap S k q) (k + 1) := by
  refine ⟨fun j hj => ?_, fun j hj h2 => ?_⟩
  · by_cases c : j = k
    · rw [c, ap_s]; exact ho
    · rw [ap_n c]; exact h.1 j (by omega)
  · by_cases c : j = k
    · rw [c, ap_s] at h2 ⊢
      rw [dep_ap S q (Nat.le_refl k)]
      exact hd h2
    · rw [ap_n c] at h2 ⊢
      rw [dep_ap S q (by omega)]
      exact h.2 j (by omega) h2
/-- nothing but the reader has changed -/
def Fr (base : Nat) (μ0 ν0 μ ν : Mem) : Prop := (∀ i, i ≠ 38 → i ≠ 40 → μ i = μ0 i) ∧ (∀ i, i ≠ 0 → i ≠ 1 → ν i = ν0 i) ∧ (∀ p, ¬ (15 ≤ p ∧ p ≤ 24) → ν 0 p = ν0 0 p) ∧ ∀ r, r < base → ν 1 r = ν0 1 r
def St (L : Nat) (T : Nat → Nat) (key base : Nat) (μ0 ν0 : Mem) (s f g k w p q : Nat) (S : Nat → Nat × Nat) (μ ν : Mem) : Prop := Tp L T μ ν ∧ (μ 38 2 = nI L ∧ μ 38 3 = nI s ∧ μ 38 4 = nI f ∧ μ 38 5 = nI g ∧ μ 38 6 = nI key ∧ μ 38 7 = nI w ∧ μ 38 8 = nI k) ∧ (ν 0 14 = nI L ∧ ν 0 15 = nI s ∧ ν 0 16 = nI f ∧ ν 0 20 = nI p ∧ ν 0 21 = nI q ∧ ν 0 22 = nI k ∧ ν 0 23 = nI base ∧ ν 0 24 = nI w) ∧ Tk L T s f g (ν 0 17) (ν 0 18) (ν 0 19) ∧ (∀ j, j < k → μ 40 j = enc key (S j) ∧ ν 1 (base + 2 * j) = nI (S j).1 ∧ ν 1 (base + 2 * j + 1) = nI (S j).2) ∧ VS key S k ∧ Fr base μ0 ν0 μ ν ∧ base + 192 ≤ 3059 ∧ key ≤ 2
def Fl (base : Nat) (μ0 ν0 μ ν : Mem) : Prop := ∃ s, s ≤ 96 ∧ μ 38 3 = nI s ∧ ν 0 15 = nI s ∧ Fr base μ0 ν0 μ ν
/-- what a reading ends with, in both -/
def Res (L : Nat) (T : Nat → Nat) (key base : Nat) (μ0 ν0 : Mem) (s k p q : Nat) (S : Nat → Nat × Nat) (x y : Option (Int32 × Mem)) : Prop := (∃ s' f' g' k' w' S' μ' ν', x = some (1, μ') ∧ y = some (1, ν') ∧ St L T key base μ0 ν0 s' f' g' k' w' p q S' μ' ν' ∧ s < s' ∧ k' + s ≤ k + s' ∧ dep S' k' = dep S k + 1) ∨ ∃ μ' ν', x = some (0, μ') ∧ y = some (0, ν') ∧ Fl base μ0 ν0 μ' ν'
section PA
variable {L : Nat} {T : Nat → Nat} {key base : Nat} {μ0 ν0 μ ν : Mem} {s f g k w p q : Nat} {S : Nat → Nat × Nat}
theorem St.fl (h : St L T key base μ0 ν0 s f g k w p q S μ ν) : Fl base μ0 ν0 μ ν := by
  obtain ⟨h1, h2, h3, h4, h5, h6, h7, h8, h9⟩ := h
  exact ⟨s, by have := h1.1; have := h4.1; have := h4.2.1; omega, h2.2.1, h3.2.1, h7⟩
theorem Res.no (h : St L T key base μ0 ν0 s f g k w p q S μ ν) {s1 k1 p1 q1 : Nat} {S1 : Nat → Nat × Nat} : Res L T key base μ0 ν0 s1 k1 p1 q1 S1 (some (0, μ)) (some (0, ν)) := Or.inr ⟨μ, ν, rfl, rfl, h.fl⟩
theorem Tk.acc {x17 x18 x19 : Int32} (h : Tk L T s f g x17 x18 x19) (h1 : s < L) (h2 : x17 = 1 ∨ x17 = 2 ∨ x17 = 3) : s < f ∧ (0 < f → ((x17 = 1 ∨ x17 = 2) ↔ chs (T (f - 1)) ≠ 1)) := by
  obtain ⟨-, -, h⟩ := h
  rcases h with ⟨z, -⟩ | ⟨-, z1, z2, -, z3, -⟩ | ⟨-, -, z2, z3, z4, -⟩ | ⟨-, -, z2, z3, z4⟩
  · omega
  · refine ⟨by omega, fun _ => ?_⟩
    rw [z2, z3, Nat.add_sub_cancel, z1]
    decide
  · refine ⟨z2, fun _ => ?_⟩
    rcases z4 with ⟨-, z4⟩ | ⟨-, z4⟩
    · rw [z3, z4]
      decide
    · rw [z4] at h2
      exact absurd h2 (by decide)
  · refine ⟨z2, fun _ => ?_⟩
    rw [z3 (f - 1) (by omega) (by omega)]
    rcases z4 with ⟨-, ⟨-, z4, -⟩ | ⟨-, z4⟩⟩ | ⟨-, z4⟩
    · rw [z4]
      decide
    · rw [z4] at h2
      exact absurd h2 (by decide)
    · rw [z4] at h2
      exact absurd h2 (by decide)
theorem next_2 (h : St L T key base μ0 ν0 s f g k w p q S μ ν) (h1 : s < L) (h2 : ν 0 17 = 1 ∨ ν 0 17 = 2 ∨ ν 0 17 = 3) : ∃ s' f' g' μ' ν', f_X3_next μ = some μ' ∧ f_X8_nextToken ν = some ν' ∧ s < s' ∧ St L T key base μ0 ν0 s' f' g' k w p q S μ' ν' := by
  obtain ⟨hT, ⟨c2, c3, c4, c5, c6, c7, c8⟩, ⟨m14, m15, m16, m20, m21, m22, m23, m24⟩, hK, hS, hV, hF, hb, hk⟩ := h
  have hL := hT.1
  have fL := hK.2.1
  obtain ⟨sf, hacc⟩ := hK.acc h1 h2
  obtain ⟨s', f', hx⟩ := lexE L T fL
  obtain ⟨F, e2, f15, f16, fK, fp⟩ := next_M hT m14 m16 rfl hacc fL hx
  have e1 := next_C hT c2 c4 fL hx
  have hx1 := hx.1
  refine ⟨s', f', glu L T f s', _, _, e1, e2, by omega, hT.of (mrow_n (by omega)) (mrow_n (by omega)), ?_, ?_, ?_, fun j hj => ?_, hV, ⟨fun i i1 i2 => ?_, fun i i1 i2 => ?_, fun r hr => ?_, fun r hr => ?_⟩, hb, hk⟩
  · rw [mrow_s, pk_un (j := 2) (by omega), pk_un (j := 2) (by omega), pk_un (j := 2) (by omega), pk_un (j := 3) (by omega), pk_un (j := 3) (by omega), pk_us, pk_un (j := 4) (by omega), pk_us, pk_us, pk_un (j := 6) (by omega), pk_un (j := 6) (by omega), pk_un (j := 6) (by omega), pk_un (j := 7) (by omega), pk_un (j := 7) (by omega), pk_un (j := 7) (by omega), pk_un (j := 8) (by omega), pk_un (j := 8) (by omega), pk_un (j := 8) (by omega)]
    exact ⟨c2, rfl, rfl, rfl, c6, c7, c8⟩
  · rw [mrow_s, fp 14 (by omega) (by omega) (by omega) (by omega) (by omega), fp 20 (by omega) (by omega) (by omega) (by omega) (by omega), fp 21 (by omega) (by omega) (by omega) (by omega) (by omega), fp 22 (by omega) (by omega) (by omega) (by omega) (by omega), fp 23 (by omega) (by omega) (by omega) (by omega) (by omega), fp 24 (by omega) (by omega) (by omega) (by omega) (by omega)]
    exact ⟨m14, f15, f16, m20, m21, m22, m23, m24⟩
  · rw [mrow_s]
    exact fK
  · rw [mrow_n (by omega), mrow_n (by omega)]
    exact hS j hj
  · rw [mrow_n i1]
    exact hF.1 i i1 i2
  · rw [mrow_n i1]
    exact hF.2.1 i i1 i2
  · rw [mrow_s, fp r (by omega) (by omega) (by omega) (by omega) (by omega)]
    exact hF.2.2.1 r hr
  · rw [mrow_n (by omega)]
    exact hF.2.2.2 r hr
theorem put_2 (h : St L T key base μ0 ν0 s f g k w p q S μ ν) (hk96 : k < 96) {c : Nat × Nat} (ho : okS key c) (hd : c.1 = 2 → (c.2 = 33 ∧ 1 ≤ dep S k) ∨ (c.2 ≠ 33 ∧ 2 ≤ dep S k)) : ∃ μ' ν', f_X3_put (enc key c) μ = some μ' ∧ f_X8_step (nI c.1) (nI c.2) ν = some ν' ∧ St L T key base μ0 ν0 s f g (k + 1) w p q (ap S k c) μ' ν' ∧ (∀ r, r ≠ 22 → ν' 0 r = ν 0 r) := by
  obtain ⟨hT, ⟨c2, c3, c4, c5, c6, c7, c8⟩, ⟨m14, m15, m16, m20, m21, m22, m23, m24⟩, hK, hS, hV, hF, hb, hk⟩ := h
  refine ⟨mset (mset μ 40 k (enc key c)) 38 8 (nI (k + 1)), mset (mset (mset ν 1 (base + 2 * k) (nI c.1)) 1 (base + 2 * k + 1) (nI c.2)) 0 22 (nI (k + 1)), ?_, ?_, ⟨hT.of (by rw [mset_n (by omega), mset_n (by omega)]) (by rw [mset_n (by omega), mset_n (by omega), mset_n (by omega)]), ?_, ?_, ?_, fun j hj => ?_, hV.ap ho hd, ⟨fun i i1 i2 => by rw [mset_n i1, mset_n i2]; exact hF.1 i i1 i2, fun i i1 i2 => by rw [mset_n i1, mset_n i2, mset_n i2]; exact hF.2.1 i i1 i2, fun r hr => by rw [mset_sn (by omega), mset_n (by omega), mset_n (by omega)]; exact hF.2.2.1 r hr, fun r hr => by rw [mset_n (by omega), mset_sn (by omega), mset_sn (by omega)]; exact hF.2.2.2 r hr⟩, hb, hk⟩, fun r hr => by rw [mset_sn hr, mset_n (by omega), mset_n (by omega)]⟩
  · unfold f_X3_put
    rw [c8, if_neg (show ¬ (96 : Int32) ≤ nI k from nI_ge (b := 96) hk96 (by omega)), stM_n (by omega) (by omega), bs, nms, mset_n (by omega), c8, nI_1]
  · unfold f_X8_step
    rw [m23, m22, show nI base + 2 * nI k = nI (base + 2 * k) from by show nI base + nI 2 * nI k = _; rw [pk_mul, nI_add], stM_n (by omega) (by omega), bs, mset_n (by omega), m23, m22, show nI base + 2 * nI k + 1 = nI (base + 2 * k + 1) from by show nI base + nI 2 * nI k + nI 1 = _; rw [pk_mul, nI_add, nI_add], stM_n (by omega) (by omega), bs, nms, mset_n (by omega), mset_n (by omega), m22, nI_1]
  · have e : ∀ r, r ≠ 8 → mset (mset μ 40 k (enc key c)) 38 8 (nI (k + 1)) 38 r = μ 38 r := fun r hr => by rw [mset_sn hr, mset_n (by omega)]
    rw [e 2 (by omega), e 3 (by omega), e 4 (by omega), e 5 (by omega), e 6 (by omega), e 7 (by omega), mset_ss]
    exact ⟨c2, c3, c4, c5, c6, c7, rfl⟩
  · have e : ∀ r, r ≠ 22 → mset (mset (mset ν 1 (base + 2 * k) (nI c.1)) 1 (base + 2 * k + 1) (nI c.2)) 0 22 (nI (k + 1)) 0 r = ν 0 r := fun r hr => by rw [mset_sn hr, mset_n (by omega), mset_n (by omega)]
    rw [e 14 (by omega), e 15 (by omega), e 16 (by omega), e 20 (by omega), e 21 (by omega), e 23 (by omega), e 24 (by omega), mset_ss]
    exact ⟨m14, m15, m16, m20, m21, rfl, m23, m24⟩
  · have e : ∀ r, r ≠ 22 → mset (mset (mset ν 1 (base + 2 * k) (nI c.1)) 1 (base + 2 * k + 1) (nI c.2)) 0 22 (nI (k + 1)) 0 r = ν 0 r := fun r hr => by rw [mset_sn hr, mset_n (by omega), mset_n (by omega)]
    rw [e 17 (by omega), e 18 (by omega), e 19 (by omega)]
    exact hK
  · rw [mset_n (i := 38) (j := 40) (by omega), mset_n (i := 0) (j := 1) (by omega)]
    by_cases cj : j = k
    · rw [cj, ap_s, mset_ss, mset_ss, mset_sn (by omega), mset_ss]
      exact ⟨rfl, rfl, rfl⟩
    · rw [ap_n cj, mset_sn cj, mset_sn (by omega), mset_sn (by omega), mset_sn (by omega), mset_sn (by omega)]
      exact hS j (by omega)
/-- one more number or name said -/
theorem said_2 (h : St L T key base μ0 ν0 s f g k w p q S μ ν) : St L T key base μ0 ν0 s f g k (w + 1) p q S (mset μ 38 7 (μ 38 7 + 1)) (mset ν 0 24 (ν 0 24 + 1)) := by
  obtain ⟨hT, ⟨c2, c3, c4, c5, c6, c7, c8⟩, ⟨m14, m15, m16, m20, m21, m22, m23, m24⟩, hK, hS, hV, hF, hb, hk⟩ := h
  refine ⟨hT.of (mset_n (by omega)) (mset_n (by omega)), ?_, ?_, ?_, fun j hj => ?_, hV, ⟨fun i i1 i2 => by rw [mset_n i1]; exact hF.1 i i1 i2, fun i i1 i2 => by rw [mset_n i1]; exact hF.2.1 i i1 i2, fun r hr => by rw [mset_sn (by omega)]; exact hF.2.2.1 r hr, fun r hr => by rw [mset_n (by omega)]; exact hF.2.2.2 r hr⟩, hb, hk⟩
  · rw [mset_sn (l := 2) (by omega), mset_sn (l := 3) (by omega), mset_sn (l := 4) (by omega), mset_sn (l := 5) (by omega), mset_sn (l := 6) (by omega), mset_ss, mset_sn (l := 8) (by omega), c7, nI_1]
    exact ⟨c2, c3, c4, c5, c6, rfl, c8⟩
  · rw [mset_sn (l := 14) (by omega), mset_sn (l := 15) (by omega), mset_sn (l := 16) (by omega), mset_sn (l := 20) (by omega), mset_sn (l := 21) (by omega), mset_sn (l := 22) (by omega), mset_sn (l := 23) (by omega), mset_ss, m24, nI_1]
    exact ⟨m14, m15, m16, m20, m21, m22, m23, rfl⟩
  · rw [mset_sn (l := 17) (by omega), mset_sn (l := 18) (by omega), mset_sn (l := 19) (by omega)]
    exact hK
  · rw [mset_n (by omega), mset_n (by omega)]
    exact hS j hj
/-- the reference's two counts of what stands open -/
theorem deep_2 (h : St L T key base μ0 ν0 s f g k w p q S μ ν) (p' q' : Nat) : St L T key base μ0 ν0 s f g k w p' q S μ (mset ν 0 20 (nI p')) ∧ St L T key base μ0 ν0 s f g k w p q' S μ (mset ν 0 21 (nI q')) := by
  obtain ⟨hT, hc, ⟨m14, m15, m16, m20, m21, m22, m23, m24⟩, hK, hS, hV, hF, hb, hk⟩ := h
  constructor
  · refine ⟨hT.of rfl (mset_n (by omega)), hc, ?_, ?_, fun j hj => ?_, hV, ⟨hF.1, fun i i1 i2 => by rw [mset_n i1]; exact hF.2.1 i i1 i2, fun r hr => by rw [mset_sn (by omega)]; exact hF.2.2.1 r hr, fun r hr => by rw [mset_n (by omega)]; exact hF.2.2.2 r hr⟩, hb, hk⟩
    · rw [mset_sn (l := 14) (by omega), mset_sn (l := 15) (by omega), mset_sn (l := 16) (by omega), mset_ss, mset_sn (l := 21) (by omega), mset_sn (l := 22) (by omega), mset_sn (l := 23) (by omega), mset_sn (l := 24) (by omega)]
      exact ⟨m14, m15, m16, rfl, m21, m22, m23, m24⟩
    · rw [mset_sn (l := 17) (by omega), mset_sn (l := 18) (by omega), mset_sn (l := 19) (by omega)]
      exact hK
    · rw [mset_n (by omega)]
      exact hS j hj
  · refine ⟨hT.of rfl (mset_n (by omega)), hc, ?_, ?_, fun j hj => ?_, hV, ⟨hF.1, fun i i1 i2 => by rw [mset_n i1]; exact hF.2.1 i i1 i2, fun r hr => by rw [mset_sn (by omega)]; exact hF.2.2.1 r hr, fun r hr => by rw [mset_n (by omega)]; exact hF.2.2.2 r hr⟩, hb, hk⟩
    · rw [mset_sn (l := 14) (by omega), mset_sn (l := 15) (by omega), mset_sn (l := 16) (by omega), mset_sn (l := 20) (by omega), mset_ss, mset_sn (l := 22) (by omega), mset_sn (l := 23) (by omega), mset_sn (l := 24) (by omega)]
      exact ⟨m14, m15, m16, m20, rfl, m22, m23, m24⟩
    · rw [mset_sn (l := 17) (by omega), mset_sn (l := 18) (by omega), mset_sn (l := 19) (by omega)]
      exact hK
    · rw [mset_n (by omega)]
      exact hS j hj
/-- is the token this sign? -/
theorem sign_M (h : St L T key base μ0 ν0 s f g k w p q S μ ν) {c : Nat} (hc : chs c = 1) (hc2 : c < 256) : f_X8_isSign (nI c) ν = some (if s < L ∧ T s = c then 1 else 0) := by
  obtain ⟨hT, -, -, ⟨-, -, hK⟩, -⟩ := h
  unfold f_X8_isSign
  rcases hK with ⟨z, -, -, z3⟩ | ⟨z0, z1, z2, -, z3, z4⟩ | ⟨z0, z1, z2, z3, z4, -⟩ | ⟨z0, z1, z2, z3, z4⟩
  · rw [z3, if_neg (by decide), if_neg (by omega)]
  · have := (hT.2 s z0).1
    rw [z3, if_pos rfl, z4]
    by_cases e : T s = c
    · rw [if_pos (by rw [e]), if_pos ⟨z0, e⟩]
    · rw [if_neg (i_ne (by omega) (by omega) e), if_neg (fun z => e z.2)]
  · have n3 : ¬ ν 0 17 = 3 := by
      rcases z4 with ⟨-, z4⟩ | ⟨-, z4⟩ <;> rw [z4] <;> decide
    rw [if_neg n3, if_neg (fun z => by rw [z.2, hc] at z1; exact absurd z1 (by decide))]
  · have n3 : ¬ ν 0 17 = 3 := by
      rcases z4 with ⟨-, ⟨-, z4, -⟩ | ⟨-, z4⟩⟩ | ⟨-, z4⟩ <;> rw [z4] <;> decide
    rw [if_neg n3, if_neg (fun z => by rw [z.2, hc] at z1; exact absurd z1 (by decide))]
/-- a sign is a token of its own -/
theorem sign_T (h : St L T key base μ0 ν0 s f g k w p q S μ ν) (h1 : s < L) (hc : chs (T s) = 1) : ν 0 17 = 3 ∧ ν 0 19 = nI (T s) ∧ g = 0 := by
  obtain ⟨-, -, -, ⟨-, -, hK⟩, -⟩ := h
  rcases hK with ⟨z, -⟩ | ⟨-, -, -, z2, z3, z4⟩ | ⟨-, z1, -⟩ | ⟨-, z1, -⟩
  · omega
  · exact ⟨z3, z4, z2⟩
  · omega
  · omega
end PA
