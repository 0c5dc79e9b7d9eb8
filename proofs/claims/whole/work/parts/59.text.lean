/-! TEXT: the call -/
theorem Rel.town {μ ν μ' ν' : Mem} (hR : Rel μ ν) (h1 : RTown μ' ν') (hc : ∀ i, i = 0 ∨ 41 ≤ i → μ' i = μ i) (hm : ∀ i, 2 ≤ i → ν' i = ν i) (h29 : ν' 0 29 = ν 0 29) (h2 : μ' 38 2 = 0) (h14 : ν' 0 14 = 0) : Rel μ' ν' := by
  obtain ⟨-, -, k3, k4, k5⟩ := hR
  exact ⟨h1, ⟨0, by omega, h2, h14, fun j hj => absurd hj (Nat.not_lt_zero j)⟩,
    k3.of (fun i i1 i2 => hc i (by omega)) (hm 4 (by omega)) (hm 5 (by omega)) (hm 6 (by omega)),
    k4.of (fun i i1 i2 => hc i (by omega)) (fun i i1 i2 => hm i (by omega)),
    k5.of (by rw [hc 0 (by omega)]) (hc 66 (by omega)) h29 (hm 17 (by omega))⟩
/-- where a text's steps go -/
def bsO (n : Nat) : Nat := if n < 14 then 63 + 200 * n else 2859
theorem bsO_b {n : Nat} (hn : n ≤ 14) : bsO n + 192 ≤ 3059 ∧ 63 ≤ bsO n ∧ ∀ i, i < n → 64 + 200 * i + 2 * 95 < bsO n := by
  unfold bsO
  split
  · exact ⟨by omega, by omega, fun i hi => by omega⟩
  · exact ⟨by omega, by omega, fun i hi => by omega⟩
/-- a reading that was refused leaves the towns alone -/
theorem Rel.fr {t : TB} {a : AT} {μ ν μ' ν' : Mem} (hR : Rel μ ν) (hF : Fr (bsO (tX a)) μ ν μ' ν') (hT : ∃ (t : TB), Tw t a μ 21 (ν 1) ∧ TV t (tX a) ∧ TC t μ (tX a) ∧ ((μ 0 10 = 0 ∧ ν 0 3 = 0) ∨ (μ 0 10 = 1 ∧ ν 0 3 = 1 ∧ ∃ i, Tw t i μ 26 (ν 2) ∧ tX i ≤ tX a))) : Rel (mset μ' 38 2 0) (mset ν' 0 14 0) := by
  obtain ⟨t, ⟨e1, e2, e3, e4, e5⟩, e6, e7, e8⟩ := hT
  have x14 := (tX_eq e1).2
  obtain ⟨b1, b2, b3⟩ := bsO_b x14
  obtain ⟨f1, f2, f3, f4⟩ := hF
  have c : ∀ i, i ≠ 38 → i ≠ 40 → mset μ' 38 2 0 i = μ i := fun i i1 i2 => by rw [mset_n i1]; exact f1 i i1 i2
  refine hR.town ⟨t, a, ⟨e1, e2, e3.of (fun i i1 i2 => c i (by omega) (by omega)), ?_, ?_⟩, e6, e7.of x14 (fun i i1 i2 i3 => c i (by omega) (by omega)), ?_⟩ (fun i hi => c i (by omega) (by omega)) (fun i hi => by rw [mset_n (by omega)]; exact f2 i (by omega) (by omega)) (by rw [mset_sn (by omega)]; exact f3 29 (by omega)) mset_ss mset_ss
  · rw [mset_n (by omega)]
    exact e4.cut e1.1 (fun q hq => f4 q (by omega))
  · rw [mset_n (by omega)]
    intro i hi
    obtain ⟨g1, g2, g3, g4⟩ := e5 i hi
    have hL := (e6 i hi).2.1
    have hb := b3 i hi
    refine ⟨by rw [f4 _ (by omega)]; exact g1, by rw [f4 _ (by omega)]; exact g2, by rw [f4 _ (by omega)]; exact g3, fun j hj => ?_⟩
    rw [f4 _ (by omega), f4 _ (by omega)]
    exact g4 j hj
  · rw [c 0 (by omega) (by omega), mset_sn (by omega), f3 3 (by omega), mset_n (by omega), f2 2 (by omega) (by omega)]
    rcases e8 with e8 | ⟨k1, k2, i, k3, k4⟩
    · exact Or.inl e8
    · exact Or.inr ⟨k1, k2, i, k3.of (fun j a1 a2 => c j (by omega) (by omega)), k4⟩
theorem lg0 (n : Nat) (h : n < 2 ^ 31) : 0 ≤ nI n := nI_pos' h
/-- a reading, of both -/
theorem read_2 {L n : Nat} {T : Nat → Nat} {μ ν : Mem} (hT : Tp L T μ ν) (h2 : μ 38 2 = nI L) (h14 : ν 0 14 = nI L) (hn : n ≤ 14) (hs1 : ν 1 1 = nI n) : (∃ μ' ν' s, f_X3_read μ = some (0, μ') ∧ f_X8_parse ν = some (-1, mset ν' 0 14 0) ∧ s ≤ 96 ∧ μ' 38 3 = nI s ∧ ν' 0 15 = nI s ∧ Fr (bsO n) μ ν μ' ν') ∨ ∃ key s f g k w S μ' ν', f_X3_read μ = some (1, μ') ∧ f_X8_parse ν = some (nI key, mset ν' 0 14 0) ∧ St L T key (bsO n) μ ν s f g k w 0 0 S μ' ν' ∧ k ≤ 96 ∧ dep S k = 1 := by
  have hL := hT.1
  obtain ⟨b1, b2, b3⟩ := bsO_b hn
  -- the reader set to its begin
  let F0 : Nat → Int32 := upd (upd (upd (upd (μ 38) 3 0) 4 0) 7 0) 8 0
  let G0 : Nat → Int32 := upd (upd (upd (upd (upd (upd (upd (ν 0) 16 0) 17 3) 20 0) 21 0) 22 0) 24 0) 23 (nI (bsO n))
  have em : mset (mset (mset (mset μ 38 3 0) 38 4 0) 38 7 0) 38 8 0 = mrow μ 38 F0 := by
    have e0 : mset μ 38 3 0 = mrow μ 38 (upd (μ 38) 3 0) := rfl
    rw [e0, mset_mrow, mset_mrow, mset_mrow]
  have en : mset (mset (mset (mset (mset (mset (mset ν 0 16 0) 0 17 3) 0 20 0) 0 21 0) 0 22 0) 0 24 0) 0 23 (nI (bsO n)) = mrow ν 0 G0 := by
    have e0 : mset ν 0 16 0 = mrow ν 0 (upd (ν 0) 16 0) := rfl
    rw [e0, mset_mrow, mset_mrow, mset_mrow, mset_mrow, mset_mrow, mset_mrow]
  have hT1 : Tp L T (mrow μ 38 F0) (mrow ν 0 G0) := hT.of (mrow_n (by omega)) (mrow_n (by omega))
  have a2 : (mrow μ 38 F0) 38 2 = nI L := by
    rw [mrow_s]
    show upd (upd (upd (upd (μ 38) 3 0) 4 0) 7 0) 8 0 2 = _
    rw [pk_un (by omega), pk_un (by omega), pk_un (by omega), pk_un (by omega), h2]
  have a4 : (mrow μ 38 F0) 38 4 = nI 0 := by
    rw [mrow_s]
    show upd (upd (upd (upd (μ 38) 3 0) 4 0) 7 0) 8 0 4 = _
    rw [pk_un (by omega), pk_un (by omega), pk_us]
    rfl
  have a14 : (mrow ν 0 G0) 0 14 = nI L := by
    rw [mrow_s]
    show upd (upd (upd (upd (upd (upd (upd (ν 0) 16 0) 17 3) 20 0) 21 0) 22 0) 24 0) 23 (nI (bsO n)) 14 = _
    rw [pk_un (by omega), pk_un (by omega), pk_un (by omega), pk_un (by omega), pk_un (by omega), pk_un (by omega), pk_un (by omega), h14]
  have a16 : (mrow ν 0 G0) 0 16 = nI 0 := by
    rw [mrow_s]
    show upd (upd (upd (upd (upd (upd (upd (ν 0) 16 0) 17 3) 20 0) 21 0) 22 0) 24 0) 23 (nI (bsO n)) 16 = _
    rw [pk_un (by omega), pk_un (by omega), pk_un (by omega), pk_un (by omega), pk_un (by omega), pk_un (by omega), pk_us]
    rfl
  obtain ⟨s, f, hx⟩ := lexE L T (Nat.zero_le L)
  have e1 := next_C hT1 a2 a4 (Nat.zero_le L) hx
  obtain ⟨F, e2, f15, f16, fK, fp⟩ := next_M (x17 := (mrow ν 0 G0) 0 17) hT1 a14 a16 rfl (fun z => absurd z (Nat.lt_irrefl 0)) (Nat.zero_le L) hx
  have g0 : glu L T 0 s = 0 := if_neg (fun z => absurd z.1 (Nat.lt_irrefl 0))
  rw [g0] at e1 fK
  rw [mrow_s, mrow_mrow] at e1
  rw [mrow_mrow] at e2
  have fG : ∀ p, p ≠ 15 → p ≠ 16 → p ≠ 17 → p ≠ 18 → p ≠ 19 → F p = G0 p := fun p p1 p2 p3 p4 p5 => by rw [fp p p1 p2 p3 p4 p5, mrow_s]
  have hT2 : Tp L T (mrow μ 38 (upd (upd (upd F0 3 (nI s)) 4 (nI f)) 5 (nI 0))) (mrow ν 0 F) := hT.of (mrow_n (by omega)) (mrow_n (by omega))
  have hread : f_X3_read μ = bn1 (f_X3_keyHere (mrow μ 38 (upd (upd (upd F0 3 (nI s)) 4 (nI f)) 5 (nI 0)))) fun v6 => nm (mset (mrow μ 38 (upd (upd (upd F0 3 (nI s)) 4 (nI f)) 5 (nI 0))) 38 6 v6) fun m7 => if 0 ≤ (m7 38 6) then (bn1 (f_X3_next m7) fun m8 => bn2 (f_X3_level 0 0 0 m8) fun v9 m10 => if v9 = 0 then some (0, m10) else if (m10 38 3) < (m10 38 2) then some (0, m10) else some (1, m10)) else some (0, m7) := by
    unfold f_X3_read
    rw [nms, nms, nms, nms, em, e1, bs]
  have hparse : f_X8_parse ν = bn1 (f_X8_key (mrow ν 0 F)) fun v11 => if v11 < 0 then f_X8_parse_J81 (mrow ν 0 F) v11 0 else f_X8_parse_J81 (mrow ν 0 F) v11 1 := by
    have e7 : ldM ((mset (mset (mset (mset (mset (mset ν 0 16 0) 0 17 3) 0 20 0) 0 21 0) 0 22 0) 0 24 0) 1) 3059 1 = some (nI n) := by
      rw [mset_n (by omega), mset_n (by omega), mset_n (by omega), mset_n (by omega), mset_n (by omega), mset_n (by omega)]
      exact (ldk (k := 1) (by omega)).trans (by rw [hs1])
    have hJ : f_X8_parse_J60 (mset (mset (mset (mset (mset (mset ν 0 16 0) 0 17 3) 0 20 0) 0 21 0) 0 22 0) 0 24 0) (nI (bsO n)) = bn1 (f_X8_key (mrow ν 0 F)) fun v11 => if v11 < 0 then f_X8_parse_J81 (mrow ν 0 F) v11 0 else f_X8_parse_J81 (mrow ν 0 F) v11 1 := by
      unfold f_X8_parse_J60
      rw [nms, en, e2, bs]
    unfold f_X8_parse
    rw [nms, nms, nms, nms, nms, nms, e7, bs, bs, textAt_n, bs]
    unfold bsO at hJ
    by_cases c : n < 14
    · rw [if_pos c] at hJ
      rw [if_neg (show ¬ (14 : Int32) ≤ nI n from nI_ge (b := 14) c (by omega)), show nI (59 + 200 * n) + 4 = nI (63 + 200 * n) from by show nI (59 + 200 * n) + nI 4 = _; rw [nI_add]; congr 1; omega]
      exact hJ
    · rw [if_neg c] at hJ
      rw [if_pos (show (14 : Int32) ≤ nI n from nI_le (a := 14) (by omega) (by omega))]
      exact hJ
  have frm : ∀ x F', (∀ p, ¬ (15 ≤ p ∧ p ≤ 24) → F' p = ν 0 p) → Fr (bsO n) μ ν (mrow μ 38 x) (mrow ν 0 F') := fun x F' hF' => ⟨fun i i1 i2 => mrow_n i1, fun i i1 i2 => mrow_n i1, fun p hp => by rw [mrow_s]; exact hF' p hp, fun r hr => by rw [mrow_n (by omega)]⟩
  have hF' : ∀ p, ¬ (15 ≤ p ∧ p ≤ 24) → F p = ν 0 p := fun p hp => by
    rw [fG p (by omega) (by omega) (by omega) (by omega) (by omega)]
    show upd (upd (upd (upd (upd (upd (upd (ν 0) 16 0) 17 3) 20 0) 21 0) 22 0) 24 0) 23 (nI (bsO n)) p = _
    rw [pk_un (by omega), pk_un (by omega), pk_un (by omega), pk_un (by omega), pk_un (by omega), pk_un (by omega), pk_un (by omega)]
  have k3 : (mrow μ 38 (upd (upd (upd F0 3 (nI s)) 4 (nI f)) 5 (nI 0))) 38 3 = nI s := by rw [mrow_s, pk_un (by omega), pk_un (by omega), pk_us]
  have k4 : (mrow μ 38 (upd (upd (upd F0 3 (nI s)) 4 (nI f)) 5 (nI 0))) 38 4 = nI f := by rw [mrow_s, pk_un (by omega), pk_us]
  have sL : s ≤ L := hx.2.1
  have noJ : ∀ v m, f_X8_parse_J111 v 0 m = some (-1, mset m 0 14 0) := fun v m => by
    unfold f_X8_parse_J111
    rw [nms, if_pos rfl]
  rcases key_2 hT2 k3 k4 (by rw [mrow_s]; exact f15) (by rw [mrow_s]; exact f16) (by rw [mrow_s]; exact fK) with ⟨q1, q2⟩ | ⟨key, hk, q1, q2, q3, q4⟩
  · refine Or.inl ⟨mrow μ 38 (upd (upd (upd (upd F0 3 (nI s)) 4 (nI f)) 5 (nI 0)) 6 (-1)), mrow ν 0 F, s, ?_, ?_, by omega, ?_, by rw [mrow_s]; exact f15, frm _ F hF'⟩
    · rw [hread, q1, bs, nms, mset_mrow, mrow_s, pk_us, if_neg (by decide)]
    · rw [hparse, q2, bs, if_pos (by decide)]
      unfold f_X8_parse_J81
      rw [if_pos rfl, noJ]
    · rw [mrow_s, pk_un (by omega), pk_un (by omega), pk_un (by omega), pk_us]
  · have hSt : St L T key (bsO n) μ ν s f 0 0 0 0 0 (fun _ => (0, 0)) (mrow μ 38 (upd (upd (upd (upd F0 3 (nI s)) 4 (nI f)) 5 (nI 0)) 6 (nI key))) (mrow ν 0 F) := by
      refine ⟨hT.of (mrow_n (by omega)) (mrow_n (by omega)), ?_, ?_, by rw [mrow_s]; exact fK, fun j hj => absurd hj (Nat.not_lt_zero j), ⟨fun j hj => absurd hj (Nat.not_lt_zero j), fun j hj => absurd hj (Nat.not_lt_zero j)⟩, frm _ F hF', b1, hk⟩
      · rw [mrow_s]
        refine ⟨?_, ?_, ?_, ?_, pk_us, ?_, ?_⟩
        · rw [mrow_s] at a2
          rw [pk_un (by omega), pk_un (by omega), pk_un (by omega), pk_un (by omega), a2]
        · rw [pk_un (by omega), pk_un (by omega), pk_un (by omega), pk_us]
        · rw [pk_un (by omega), pk_un (by omega), pk_us]
        · rw [pk_un (by omega), pk_us]
        · rw [pk_un (by omega), pk_un (by omega), pk_un (by omega), pk_un (by omega)]
          show upd (upd (upd (upd (μ 38) 3 0) 4 0) 7 0) 8 0 7 = _
          rw [pk_un (by omega), pk_us]
          rfl
        · rw [pk_un (by omega), pk_un (by omega), pk_un (by omega), pk_un (by omega)]
          show upd (upd (upd (upd (μ 38) 3 0) 4 0) 7 0) 8 0 8 = _
          rw [pk_us]
          rfl
      · rw [mrow_s]
        have gg : ∀ p, p ≠ 15 → p ≠ 16 → p ≠ 17 → p ≠ 18 → p ≠ 19 → F p = upd (upd (upd (upd (upd (upd (upd (ν 0) 16 0) 17 3) 20 0) 21 0) 22 0) 24 0) 23 (nI (bsO n)) p := fG
        refine ⟨?_, f15, f16, ?_, ?_, ?_, ?_, ?_⟩
        · rw [hF' 14 (by omega), h14]
        · rw [gg 20 (by omega) (by omega) (by omega) (by omega) (by omega), pk_un (by omega), pk_un (by omega), pk_un (by omega), pk_un (by omega), pk_us]
          rfl
        · rw [gg 21 (by omega) (by omega) (by omega) (by omega) (by omega), pk_un (by omega), pk_un (by omega), pk_un (by omega), pk_us]
          rfl
        · rw [gg 22 (by omega) (by omega) (by omega) (by omega) (by omega), pk_un (by omega), pk_un (by omega), pk_us]
          rfl
        · rw [gg 23 (by omega) (by omega) (by omega) (by omega) (by omega), pk_us]
        · rw [gg 24 (by omega) (by omega) (by omega) (by omega) (by omega), pk_un (by omega), pk_us]
          rfl
    obtain ⟨s1, f1, g1, μ1, ν1, n1, n2, l1, h1⟩ := next_2 hSt q3 (Or.inl q4)
    have hB := (read_all L T key (bsO n) μ ν 124).2 0 0 0 200 200 (by omega) (by omega) (by omega) (by omega) (by omega) (by omega)
    have hr2 : f_X3_read μ = bn2 (f_X3_level 0 0 0 μ1) fun v9 m10 => if v9 = 0 then some (0, m10) else if (m10 38 3) < (m10 38 2) then some (0, m10) else some (1, m10) := by
      rw [hread, q1, bs, nms, mset_mrow, mrow_s, pk_us, if_pos (nI_pos' (by omega)), n1, bs]
    have hp2 : f_X8_parse ν = bn2 (f_X8_either (nI key) ν1) fun v17 m18 => if v17 = 0 then f_X8_parse_J109 (nI key) m18 else if (m18 0 17) = 0 then f_X8_parse_J110 (nI key) m18 1 else f_X8_parse_J109 (nI key) m18 := by
      rw [hparse, q2, bs, if_neg (nI_pos (by omega))]
      unfold f_X8_parse_J81
      rw [if_neg one_0, n2, bs]
    have no9 : ∀ v m, f_X8_parse_J109 v m = some (-1, mset m 0 14 0) := fun v m => noJ v m
    rcases hB s1 f1 g1 0 0 _ μ1 ν1 h1 (by omega) with ⟨s2, f2, g2, k2, w2, S2, μ2, ν2, x1, x2, h3, l2, l3, d2⟩ | ⟨μ2, ν2, x1, x2, sF, sF1, sF2, sF3, sF4⟩
    · have s2L := h3.2.2.2.1.1
      have s2L2 := h3.2.2.2.1.2.1
      rw [show f_X3_level 0 0 0 μ1 = some (1, μ2) from x1, bs2, if_neg one_0, h3.2.1.1, h3.2.1.2.1] at hr2
      rw [show f_X8_either (nI key) ν1 = some (1, ν2) from x2, bs2, if_neg one_0] at hp2
      by_cases c : s2 < L
      · refine Or.inl ⟨μ2, ν2, s2, ?_, ?_, by omega, h3.2.1.2.1, h3.2.2.1.2.1, h3.2.2.2.2.2.2.1⟩
        · rw [hr2, if_pos (nI_lt c (by omega))]
        · have n0 : ¬ ν2 0 17 = 0 := by
            obtain ⟨-, -, hk4⟩ := h3.2.2.2.1
            rcases hk4 with ⟨z, -⟩ | ⟨-, -, -, -, z, -⟩ | ⟨-, -, -, -, z, -⟩ | ⟨-, -, -, -, z⟩
            · omega
            · rw [z]
              decide
            · rcases z with ⟨-, z⟩ | ⟨-, z⟩ <;> rw [z] <;> decide
            · rcases z with ⟨-, ⟨-, z, -⟩ | ⟨-, z⟩⟩ | ⟨-, z⟩ <;> rw [z] <;> decide
          rw [hp2, if_neg n0, no9]
      · have z0 : ν2 0 17 = 0 := by
          obtain ⟨-, -, hk4⟩ := h3.2.2.2.1
          rcases hk4 with ⟨-, -, -, z⟩ | ⟨z, -⟩ | ⟨z, -⟩ | ⟨z, -⟩
          · exact z
          · omega
          · omega
          · omega
        refine Or.inr ⟨key, s2, f2, g2, k2, w2, S2, μ2, ν2, ?_, ?_, h3, by omega, ?_⟩
        · rw [hr2, if_neg (nI_nlt (by omega) (by omega))]
        · rw [hp2, if_pos z0]
          unfold f_X8_parse_J110 f_X8_parse_J111
          rw [nms, if_neg one_0]
        · rw [d2]
          rfl
    · refine Or.inl ⟨μ2, ν2, sF, ?_, ?_, sF1, sF2, sF3, sF4⟩
      · rw [hr2, show f_X3_level 0 0 0 μ1 = some (0, μ2) from x1, bs2, if_pos rfl]
      · rw [hp2, show f_X8_either (nI key) ν1 = some (0, ν2) from x2, bs2, if_pos rfl, no9]
theorem Step_24 : Step Rel C7_24 C8_24 := by
  intro a μ ν hR
  have hR0 := hR
  obtain ⟨⟨t, w0, e1, e6, e7, e8⟩, ⟨L, hL, h2, h14, hj⟩, -, -, -⟩ := hR
  have hTw : ∃ (t : TB), Tw t w0 μ 21 (ν 1) ∧ TV t (tX w0) ∧ TC t μ (tX w0) ∧ ((μ 0 10 = 0 ∧ ν 0 3 = 0) ∨ (μ 0 10 = 1 ∧ ν 0 3 = 1 ∧ ∃ i, Tw t i μ 26 (ν 2) ∧ tX i ≤ tX w0)) := ⟨t, e1, e6, e7, e8⟩
  obtain ⟨hV, hY, hC, hM, hTM⟩ := e1
  have x14 := (tX_eq hV).2
  obtain ⟨b1, b2, b3⟩ := bsO_b x14
  have hT : Tp L (fun j => (ν 13 j).toNatClampNeg) μ ν := ⟨hL, fun j h => by
    obtain ⟨h1, z, hz, ez⟩ := hj j h
    show (ν 13 j).toNatClampNeg < 256 ∧ μ 39 j = nI (ν 13 j).toNatClampNeg ∧ ν 13 j = nI (ν 13 j).toNatClampNeg
    rw [h1, ez, nI_clamp (by omega)]
    exact ⟨hz, rfl, rfl⟩⟩
  have hs1 : ν 1 1 = nI (tX w0) := by rw [hM.2.1.1, (tX_eq hV).1]
  unfold C7_24 C8_24 f_X7_text f_X8_text
  rcases read_2 hT h2 h14 x14 hs1 with ⟨μ', ν', s, r1, r2, sL, z1, z2, hF⟩ | ⟨key, s, f, g, k, w, S, μ', ν', r1, r2, hSt, hk96, hd⟩
  · rw [r1, r2, bs2, bs2, nms, if_pos rfl, if_neg (show ¬ (0 : Int32) ≤ -1 by decide), mset_sn (by omega), z1, z2]
    exact ⟨_, _, _, rfl, rfl, Rel.fr (t := t) hR0 hF hTw⟩
  · obtain ⟨sT, ⟨c2, c3, c4, c5, c6, c7, c8⟩, ⟨m14, m15, m16, m20, m21, m22, m23, m24⟩, hK, hS, hVS, hF, hb, hk⟩ := hSt
    have s1' : ν' 1 1 = nI (tX w0) := by rw [hF.2.2.2 1 (by omega), hs1]
    have cc : ∀ i, i ≠ 38 → i ≠ 40 → mset μ' 38 2 0 i = μ i := fun i i1 i2 => by rw [mset_n i1]; exact hF.1 i i1 i2
    rw [r1, r2, bs2, bs2, nms, if_neg one_0, if_pos (nI_pos' (by omega)), cc 21 (by omega) (by omega), b14 hV hC, mset_n (i := 0) (j := 1) (by omega), show ldM (ν' 1) 3059 1 = some (nI (tX w0)) from (ldk (k := 1) (by omega)).trans (by rw [s1']), bs]
    by_cases c : tX w0 < 14
    · have nlt : nI (tX w0) < 14 := nI_lt (b := 14) c (by omega)
      have eb : bsO (tX w0) = 63 + 200 * tX w0 := if_pos c
      rw [if_pos nlt, if_neg (show ¬ nI (tX w0) = 14 from i_ne (n := 14) (by omega) (by omega) (by omega))]
      unfold f_X0_write
      rw [if_neg (nI_pos (by omega)), if_pos nlt, mset_sn (show (6 : Nat) ≠ 2 by omega), c6, stM_n c (by omega), bs, mset_n (i := 2) (j := 38) (by omega), mset_sn (show (7 : Nat) ≠ 2 by omega), c7, stM_n c (by omega), bs, mset_n (i := 3) (j := 38) (by omega), mset_n (i := 2) (j := 38) (by omega), mset_sn (show (8 : Nat) ≠ 2 by omega), c8, stM_n c (by omega), bs, rdM_n c (by omega), bs]
      have cp : ∀ m : Mem, cpM m 40 96 0 (7 + tX w0) 96 0 96 = some (mrow m (7 + tX w0) (va_cpy (m 40) (m (7 + tX w0)) 0 0 96)) := fun m => rfl
      rw [cp, bs, bs, nms]
      rw [bs, textAt_n, bs, show nI (59 + 200 * tX w0) + 0 = nI (59 + 200 * tX w0) from Int32.add_zero _, stM_n (by omega) (by omega), bs, show nI (59 + 200 * tX w0) + 1 = nI (60 + 200 * tX w0) from by rw [nI_1]; congr 1; omega, mset_n (i := 1) (j := 0) (by omega), mset_sn (show (24 : Nat) ≠ 14 by omega), m24, stM_n (by omega) (by omega), bs, show nI (59 + 200 * tX w0) + 2 = nI (61 + 200 * tX w0) from by show nI (59 + 200 * tX w0) + nI 2 = _; rw [nI_add]; congr 1; omega, mset_n (i := 1) (j := 0) (by omega), mset_n (i := 1) (j := 0) (by omega), mset_sn (show (22 : Nat) ≠ 14 by omega), m22, stM_n (by omega) (by omega), bs]
      let n := tX w0
      let μ4 : Mem := mset (mset (mset (mset μ' 38 2 0) 2 n (nI key)) 3 n (nI w)) 4 n (nI k)
      let μ5 : Mem := mrow μ4 (7 + n) (va_cpy (μ4 40) (μ4 (7 + n)) 0 0 96)
      let ν4 : Mem := mset (mset (mset (mset ν' 0 14 0) 1 (59 + 200 * n) (nI key)) 1 (60 + 200 * n) (nI w)) 1 (61 + 200 * n) (nI k)
      have hn : n < 14 := c
      have m4 : ∀ i, i ≠ 38 → i ≠ 40 → i ≠ 2 → i ≠ 3 → i ≠ 4 → μ4 i = μ i := fun i i1 i2 i3 i4 i5 => by
        show mset (mset (mset (mset μ' 38 2 0) 2 n (nI key)) 3 n (nI w)) 4 n (nI k) i = _
        rw [mset_n i5, mset_n i4, mset_n i3, mset_n i1]
        exact hF.1 i i1 i2
      have m40 : μ4 40 = μ' 40 := by
        show mset (mset (mset (mset μ' 38 2 0) 2 n (nI key)) 3 n (nI w)) 4 n (nI k) 40 = _
        rw [mset_n (by omega), mset_n (by omega), mset_n (by omega), mset_n (by omega)]
      have m38 : μ4 38 = upd (μ' 38) 2 0 := by
        show mset (mset (mset (mset μ' 38 2 0) 2 n (nI key)) 3 n (nI w)) 4 n (nI k) 38 = _
        rw [mset_n (by omega), mset_n (by omega), mset_n (by omega), mset_s]
      have mc : ∀ i, i ≠ 38 → i ≠ 40 → i ≠ 2 → i ≠ 3 → i ≠ 4 → i ≠ 7 + n → μ5 i = μ i := fun i i1 i2 i3 i4 i5 i6 => by
        show mrow μ4 (7 + n) _ i = _
        rw [mrow_n i6]
        exact m4 i i1 i2 i3 i4 i5
      have n0 : ∀ i, 2 ≤ i → ν4 i = ν i := fun i hi => by
        show mset (mset (mset (mset ν' 0 14 0) 1 (59 + 200 * n) (nI key)) 1 (60 + 200 * n) (nI w)) 1 (61 + 200 * n) (nI k) i = _
        rw [mset_n (by omega), mset_n (by omega), mset_n (by omega), mset_n (by omega)]
        exact hF.2.1 i (by omega) (by omega)
      have n00 : ν4 0 = upd (ν' 0) 14 0 := by
        show mset (mset (mset (mset ν' 0 14 0) 1 (59 + 200 * n) (nI key)) 1 (60 + 200 * n) (nI w)) 1 (61 + 200 * n) (nI k) 0 = _
        rw [mset_n (by omega), mset_n (by omega), mset_n (by omega), mset_s]
      have n1 : ∀ q, q ≠ 59 + 200 * n → q ≠ 60 + 200 * n → q ≠ 61 + 200 * n → ν4 1 q = ν' 1 q := fun q q1 q2 q3 => by
        show mset (mset (mset (mset ν' 0 14 0) 1 (59 + 200 * n) (nI key)) 1 (60 + 200 * n) (nI w)) 1 (61 + 200 * n) (nI k) 1 q = _
        rw [mset_sn q3, mset_sn q2, mset_sn q1, mset_n (by omega)]
      have p59 : ν4 1 (59 + 200 * n) = nI key := by
        show mset (mset (mset (mset ν' 0 14 0) 1 (59 + 200 * n) (nI key)) 1 (60 + 200 * n) (nI w)) 1 (61 + 200 * n) (nI k) 1 (59 + 200 * n) = _
        rw [mset_sn (by omega), mset_sn (by omega), mset_ss]
      have p60 : ν4 1 (60 + 200 * n) = nI w := by
        show mset (mset (mset (mset ν' 0 14 0) 1 (59 + 200 * n) (nI key)) 1 (60 + 200 * n) (nI w)) 1 (61 + 200 * n) (nI k) 1 (60 + 200 * n) = _
        rw [mset_sn (by omega), mset_ss]
      have p61 : ν4 1 (61 + 200 * n) = nI k := by
        show mset (mset (mset (mset ν' 0 14 0) 1 (59 + 200 * n) (nI key)) 1 (60 + 200 * n) (nI w)) 1 (61 + 200 * n) (nI k) 1 (61 + 200 * n) = _
        rw [mset_ss]
      have v1 : ν4 1 1 = nI n := by rw [n1 1 (by omega) (by omega) (by omega)]; exact s1'
      have g21 : μ5 21 14 = nI n := by rw [mc 21 (by omega) (by omega) (by omega) (by omega) (by omega) (by omega)]; exact b14 hV hC
      refine ⟨nI n, mset μ5 21 14 (nI (n + 1)), mset ν4 1 1 (nI (n + 1)), ?_, ?_, ?_⟩
      · show some ((mset μ5 21 14 (μ5 21 14 + 1)) 21 14 - 1, mset μ5 21 14 (μ5 21 14 + 1)) = _
        rw [g21, mset_ss, nI_1, nI_pred]
      · show (bn1 (ldM (ν4 1) 3059 1) fun v9 => bn1 (stM ν4 1 3059 1 (v9 + 1)) fun m10 => bn1 (ldM (m10 1) 3059 1) fun v11 => some (v11 - 1, m10)) = _
        rw [show ldM (ν4 1) 3059 1 = some (nI n) from (ldk (k := 1) (by omega)).trans (by rw [v1]), bs, nI_1, show stM ν4 1 3059 1 (nI (n + 1)) = some (mset ν4 1 1 (nI (n + 1))) from stM_n (k := 1) (by omega) (by omega), bs, mset_s, show ldM (upd (ν4 1) 1 (nI (n + 1))) 3059 1 = some (nI (n + 1)) from (ldM_n (k := 1) (by omega) (by omega)).trans (by rw [pk_us]), bs, nI_pred]
      · let t' : TB := fun i => if i = n then (key, w, k, S) else t i
        have tn : t' n = (key, w, k, S) := if_pos rfl
        have ti : ∀ i, i < n → t' i = t i := fun i hi => if_neg (by omega)
        have xa : tX (setS w0 14 (nI (n + 1))) = n + 1 := by
          unfold tX
          show (upd (tS w0) 14 (nI (n + 1)) 14).toNatClampNeg = _
          rw [pk_us, nI_clamp (by omega)]
        have hC5 : AC w0 μ5 21 := hC.of (fun i i1 i2 => mc i (by omega) (by omega) (by omega) (by omega) (by omega) (by omega))
        have hM4 : AM w0 (ν4 1) := hM.cut hV.1 (fun q hq => by rw [n1 q (by omega) (by omega) (by omega)]; exact hF.2.2.2 q (by omega))
        have old : ∀ i q, i < n → 59 + 200 * i ≤ q → q ≤ 254 + 200 * i → upd (ν4 1) 1 (nI (n + 1)) q = ν 1 q := fun i q hi q1 q2 => by
          have := b3 i hi
          rw [pk_un (by omega), n1 q (by omega) (by omega) (by omega)]
          exact hF.2.2.2 q (by rw [eb]; show q < 63 + 200 * n; omega)
        have hTV' : TV t' (n + 1) := fun i hi => by
          by_cases ci : i = n
          · rw [ci]
            unfold bK bL bS
            rw [tn]
            exact ⟨hk, hk96, hVS.1, hVS.2, by rw [hd]; exact Nat.le_refl 1⟩
          · unfold bK bL bS
            rw [ti i (by omega)]
            exact e6 i (show i < n by omega)
        refine hR0.town ⟨t', setS w0 14 (nI (n + 1)), ⟨AV_S hV (fun z => absurd z (by decide)) (fun z => absurd z (by decide)) (fun z => absurd z (by decide)) (fun _ => ⟨n + 1, by omega, rfl⟩), ?_, AC_S hC5 (by omega), by rw [mset_s]; exact AM_S hM4 (i := 14) (by omega) (by omega), ?_⟩, by rw [xa]; exact hTV', ?_, ?_⟩ (fun i hi => ?_) (fun i hi => ?_) ?_ ?_ ?_
        · obtain ⟨y, hy, ey⟩ := hY
          refine ⟨y, hy, ?_⟩
          show upd (tS w0) 14 (nI (n + 1)) 12 = _
          rw [pk_un (by omega), ey]
        · rw [xa, mset_s]
          intro i hi
          by_cases ci : i = n
          · rw [ci]
            unfold bK bW bL bS
            rw [tn, pk_un (by omega), pk_un (by omega), pk_un (by omega)]
            refine ⟨p59, p60, p61, fun j hj => ?_⟩
            have hj96 : j < k := hj
            obtain ⟨-, q1, q2⟩ := hS j hj96
            rw [eb] at q1 q2
            rw [pk_un (by omega), pk_un (by omega), n1 _ (by omega) (by omega) (by omega), n1 _ (by omega) (by omega) (by omega)]
            refine ⟨q1, ?_⟩
            rw [show 64 + 200 * n + 2 * j = 63 + 200 * n + 2 * j + 1 by omega]
            exact q2
          · have hi2 : i < n := by omega
            have hLi : bL t i ≤ 96 := (e6 i hi2).2.1
            obtain ⟨g1, g2, g3, g4⟩ := hTM i hi2
            unfold bK bW bL bS
            rw [ti i hi2, old i _ hi2 (by omega) (by omega), old i _ hi2 (by omega) (by omega), old i _ hi2 (by omega) (by omega)]
            refine ⟨g1, g2, g3, fun j hj => ?_⟩
            have hj2 : j < bL t i := hj
            rw [old i _ hi2 (by omega) (by omega), old i _ hi2 (by omega) (by omega)]
            exact g4 j hj2
        · rw [xa]
          intro i hi
          have r2 : ∀ x, mset μ5 21 14 (nI (n + 1)) 2 x = mset μ' 2 n (nI key) 2 x := fun x => by
            rw [mset_n (by omega)]
            show mrow μ4 (7 + n) _ 2 x = _
            rw [mrow_n (by omega)]
            show mset (mset (mset (mset μ' 38 2 0) 2 n (nI key)) 3 n (nI w)) 4 n (nI k) 2 x = _
            rw [mset_n (by omega), mset_n (by omega), mset_s, mset_s, mset_n (by omega)]
          have r3 : ∀ x, mset μ5 21 14 (nI (n + 1)) 3 x = mset μ' 3 n (nI w) 3 x := fun x => by
            rw [mset_n (by omega)]
            show mrow μ4 (7 + n) _ 3 x = _
            rw [mrow_n (by omega)]
            show mset (mset (mset (mset μ' 38 2 0) 2 n (nI key)) 3 n (nI w)) 4 n (nI k) 3 x = _
            rw [mset_n (by omega), mset_s, mset_s, mset_n (by omega), mset_n (by omega)]
          have r4 : ∀ x, mset μ5 21 14 (nI (n + 1)) 4 x = mset μ' 4 n (nI k) 4 x := fun x => by
            rw [mset_n (by omega)]
            show mrow μ4 (7 + n) _ 4 x = _
            rw [mrow_n (by omega)]
            show mset (mset (mset (mset μ' 38 2 0) 2 n (nI key)) 3 n (nI w)) 4 n (nI k) 4 x = _
            rw [mset_s, mset_s, mset_n (by omega), mset_n (by omega), mset_n (by omega)]
          rw [r2, r3, r4]
          by_cases ci : i = n
          · rw [ci, mset_ss, mset_ss, mset_ss]
            unfold bK bW bL bS
            rw [tn]
            refine ⟨rfl, rfl, rfl, fun j hj => ?_⟩
            have hj96 : j < k := hj
            rw [mset_n (by omega)]
            show mrow μ4 (7 + n) _ (7 + n) j = _
            rw [mrow_s, pk_cpy_in (Nat.zero_le _) (by omega), m40, Nat.sub_zero, Nat.zero_add]
            exact (hS j hj96).1
          · have hi2 : i < n := by omega
            obtain ⟨g1, g2, g3, g4⟩ := e7 i hi2
            rw [mset_sn ci, mset_sn ci, mset_sn ci, hF.1 2 (by omega) (by omega), hF.1 3 (by omega) (by omega), hF.1 4 (by omega) (by omega)]
            unfold bK bW bL bS
            rw [ti i hi2]
            refine ⟨g1, g2, g3, fun j hj => ?_⟩
            rw [mset_n (by omega), mc (7 + i) (by omega) (by omega) (by omega) (by omega) (by omega) (by omega)]
            exact g4 j hj
        · rw [mset_n (by omega), mc 0 (by omega) (by omega) (by omega) (by omega) (by omega) (by omega), mset_n (i := 1) (j := 0) (by omega), n00, pk_un (by omega), hF.2.2.1 3 (by omega), mset_n (i := 1) (j := 2) (by omega), n0 2 (by omega), xa]
          rcases e8 with e8 | ⟨u1, u2, i, ⟨v1, v2, v3, v4, v5⟩, u4⟩
          · exact Or.inl e8
          · refine Or.inr ⟨u1, u2, i, ⟨v1, v2, v3.of (fun j j1 j2 => by rw [mset_n (by omega), mc j (by omega) (by omega) (by omega) (by omega) (by omega) (by omega)]), v4, fun j hj => ?_⟩, by omega⟩
            unfold bK bW bL bS
            rw [ti j (show j < tX w0 by omega)]
            exact v5 j hj
        · rw [mset_n (by omega), mc i (by omega) (by omega) (by omega) (by omega) (by omega) (by omega)]
        · rw [mset_n (by omega), n0 i hi]
        · rw [mset_n (by omega), n00, pk_un (by omega)]
          exact hF.2.2.1 29 (by omega)
        · rw [mset_n (by omega)]
          show mrow μ4 (7 + n) _ 38 2 = _
          rw [mrow_n (by omega), m38, pk_us]
        · rw [mset_n (by omega), n00, pk_us]
    · have e14 : tX w0 = 14 := by omega
      rw [if_neg (show ¬ nI (tX w0) < 14 from nI_nlt (b := 14) (by omega) (by omega)), if_pos (show nI (tX w0) = 14 by rw [e14]; rfl)]
      exact ⟨-1000000003, _, _, rfl, rfl, Rel.fr (t := t) hR0 hF hTw⟩
