/-! TEXT: the call -/
theorem Rel.town {μ ν μ' ν' : Mem} (hR : Rel μ ν) (h1 : RTown μ' ν') (hc : ∀ i, i = 0 ∨ 41 ≤ i → μ' i = μ i) (hm : ∀ i, 2 ≤ i → ν' i = ν i) (h29 : ν' 0 29 = ν 0 29) (h2 : μ' 38 2 = 0) (h14 : ν' 0 14 = 0) : Rel μ' ν' := by
  obtain ⟨-, -, k3, k4, k5⟩ := hR
  exact ⟨h1, ⟨0, by omega, h2, h14, fun j hj => absurd hj (Nat.not_lt_zero j)⟩,
    k3.of (fun i i1 i2 => hc i (by omega)) (hm 4 (by omega)) (hm 5 (by omega)) (hm 6 (by omega)),
    k4.of (fun i i1 i2 => hc i (by omega)) (fun i i1 i2 => hm i (by omega)),
    k5.of (by rw [hc 0 (by omega)]) (hc 66 (by omega)) h29 (hm 17 (by omega))⟩
/-- where a text's steps go -/
def bsO (n : Nat) : Nat := if n < 14 then 63 + 200 * n else 2859
theorem bsO_b {n : Nat} (hn : n ≤ 14) : bsO n + 192 ≤ 3059 ∧ 63 ≤ bsO n ∧ ∀ i, i < n → 64 + 200 * i + 2 * 95 < bsO n := by
  unfold bsO
  split
  · exact ⟨by omega, by omega, fun i hi => by omega⟩
  · exact ⟨by omega, by omega, fun i hi => by omega⟩
/-- a reading that was refused leaves the towns alone -/
theorem Rel.fr {t : TB} {a : AT} {μ ν μ' ν' : Mem} (hR : Rel μ ν) (hF : Fr (bsO (tX a)) μ ν μ' ν') (hT : ∃ (t : TB), Tw t a μ 21 (ν 1) ∧ TV t (tX a) ∧ TC t μ (tX a) ∧ ((μ 0 10 = 0 ∧ ν 0 3 = 0) ∨ (μ 0 10 = 1 ∧ ν 0 3 = 1 ∧ ∃ i, Tw t i μ 26 (ν 2) ∧ tX i ≤ tX a))) : Rel (mset μ' 38 2 0) (mset ν' 0 14 0) := by
  obtain ⟨t, ⟨e1, e2, e3, e4, e5⟩, e6, e7, e8⟩ := hT
  have x14 := (tX_eq e1).2
  obtain ⟨b1, b2, b3⟩ := bsO_b x14
  obtain ⟨f1, f2, f3, f4⟩ := hF
  have c : ∀ i, i ≠ 38 → i ≠ 40 → mset μ' 38 2 0 i = μ i := fun i i1 i2 => by rw [mset_n i1]; exact f1 i i1 i2
  refine hR.town ⟨t, a, ⟨e1, e2, e3.of (fun i i1 i2 => c i (by omega) (by omega)), ?_, ?_⟩, e6, e7.of x14 (fun i i1 i2 i3 => c i (by omega) (by omega)), ?_⟩ (fun i hi => c i (by omega) (by omega)) (fun i hi => by rw [mset_n (by omega)]; exact f2 i (by omega) (by omega)) (by rw [mset_sn (by omega)]; exact f3 29 (by omega)) mset_ss mset_ss
  · rw [mset_n (by omega)]
    exact e4.cut e1.1 (fun q hq => f4 q (by omega))
  · rw [mset_n (by omega)]
    intro i hi
    obtain ⟨g1, g2, g3, g4⟩ := e5 i hi
    have hL := (e6 i hi).2.1
    have hb := b3 i hi
    refine ⟨by rw [f4 _ (by omega)]; exact g1, by rw [f4 _ (by omega)]; exact g2, by rw [f4 _ (by omega)]; exact g3, fun j hj => ?_⟩
    rw [f4 _ (by omega), f4 _ (by omega)]
    exact g4 j hj
  · rw [c 0 (by omega) (by omega), mset_sn (by omega), f3 3 (by omega), mset_n (by omega), f2 2 (by omega) (by omega)]
    rcases e8 with e8 | ⟨k1, k2, i, k3, k4⟩
    · exact Or.inl e8
    · exact Or.inr ⟨k1, k2, i, k3.of (fun j a1 a2 => c j (by omega) (by omega)), k4⟩
theorem lg0 (n : Nat) (h : n < 2 ^ 31) : 0 ≤ nI n := nI_pos' h
/-- a reading, of both -/
theorem read_2 {L n : Nat} {T : Nat → Nat} {μ ν : Mem} (hT : Tp L T μ ν) (h2 : μ 38 2 = nI L) (h14 : ν 0 14 = nI L) (hn : n ≤ 14) (hs1 : ν 1 1 = nI n) : (∃ μ' ν' s, f_X3_read μ = some (0, μ') ∧ f_X8_parse ν = some (-1, mset ν' 0 14 0) ∧ s ≤ 96 ∧ μ' 38 3 = nI s ∧ ν' 0 15 = nI s ∧ Fr (bsO n) μ ν μ' ν') ∨ ∃ key s f g k w S μ' ν', f_X3_read μ = some (1, μ') ∧ f_X8_parse ν = some (nI key, mset ν' 0 14 0) ∧ St L T key (bsO n) μ ν s f g k w 0 0 S μ' ν' ∧ k ≤ 96 ∧ dep S k = 1 := by
  have hL := hT.1
  obtain ⟨b1, b2, b3⟩ := bsO_b hn
  -- the reader set to its begin
  let F0 : Nat → Int32 := upd (upd (upd (upd (μ 38) 3 0) 4 0) 7 0) 8 0
  let G0 : Nat → Int32 := upd (upd (upd (upd (upd (upd (upd (ν 0) 16 0) 17 3) 20 0) 21 0) 22 0) 24 0) 23 (nI (bsO n))
  have em : mset (mset (mset (mset μ 38 3 0) 38 4 0) 38 7 0) 38 8 0 = mrow μ 38 F0 := by
    have e0 : mset μ 38 3 0 = mrow μ 38 (upd (μ 38) 3 0) := rfl
    rw [e0, mset_mrow, mset_mrow, mset_mrow]
  have en : mset (mset (mset (mset (mset (mset (mset ν 0 16 0) 0 17 3) 0 20 0) 0 21 0) 0 22 0) 0 24 0) 0 23 (nI (bsO n)) = mrow ν 0 G0 := by
    have e0 : mset ν 0 16 0 = mrow ν 0 (upd (ν 0) 16 0) := rfl
    rw [e0, mset_mrow, mset_mrow, mset_mrow, mset_mrow, mset_mrow, mset_mrow]
  have hT1 : Tp L T (mrow μ 38 F0) (mrow ν 0 G0) := hT.of (mrow_n (by omega)) (mrow_n (by omega))
  have a2 : (mrow μ 38 F0) 38 2 = nI L := by
    rw [mrow_s]
    show upd (upd (upd (upd (μ 38) 3 0) 4 0) 7 0) 8 0 2 = _
    rw [pk_un (by omega), pk_un (by omega), pk_un (by omega), pk_un (by omega), h2]
  have a4 : (mrow μ 38 F0) 38 4 = nI 0 := by
    rw [mrow_s]
    show upd (upd (upd (upd (μ 38) 3 0) 4 0) 7 0) 8 0 4 = _
    rw [pk_un (by omega), pk_un (by omega), pk_us]
    rfl
  have a14 : (mrow ν 0 G0) 0 14 = nI L := by
    rw [mrow_s]
    show upd (upd (upd (upd (upd (upd (upd (ν 0) 16 0) 17 3) 20 0) 21 0) 22 0) 24 0) 23 (nI (bsO n)) 14 = _
    rw [pk_un (by omega), pk_un (by omega), pk_un (by omega), pk_un (by omega), pk_un (by omega), pk_un (by omega), pk_un (by omega), h14]
  have a16 : (mrow ν 0 G0) 0 16 = nI 0 := by
    rw [mrow_s]
    show upd (upd (upd (upd (upd (upd (upd (ν 0) 16 0) 17 3) 20 0) 21 0) 22 0) 24 0) 23 (nI (bsO n)) 16 = _
    rw [pk_un (by omega), pk_un (by omega), pk_un (by omega), pk_un (by omega), pk_un (by omega), pk_un (by omega), pk_us]
    rfl
  obtain ⟨s, f, hx⟩ := lexE L T (Nat.zero_le L)
  have e1 := next_C hT1 a2 a4 (Nat.zero_le L) hx
  obtain ⟨F, e2, f15, f16, fK, fp⟩ := next_M (x17 := (mrow ν 0 G0) 0 17) hT1 a14 a16 rfl (fun z => absurd z (Nat.lt_irrefl 0)) (Nat.zero_le L) hx
  have g0 : glu L T 0 s = 0 := if_neg (fun z => absurd z.1 (Nat.lt_irrefl 0))
  rw [g0] at e1 fK
  rw [mrow_s, mrow_mrow] at e1
  rw [mrow_mrow] at e2
  have fG : ∀ p, p ≠ 15 → p ≠ 16 → p ≠ 17 → p ≠ 18 → p ≠ 19 → F p = G0 p := fun p p1 p2 p3 p4 p5 => by rw [fp p p1 p2 p3 p4 p5, mrow_s]
  have hT2 : Tp L T (mrow μ 38 (upd (upd (upd F0 3 (nI s)) 4 (nI f)) 5 (nI 0))) (mrow ν 0 F) := hT.of (mrow_n (by omega)) (mrow_n (by omega))
  have hread : f_X3_read μ = bn1 (f_X3_keyHere (mrow μ 38 (upd (upd (upd F0 3 (nI s)) 4 (nI f)) 5 (nI 0)))) fun v6 => nm (mset (mrow μ 38 (upd (upd (upd F0 3 (nI s)) 4 (nI f)) 5 (nI 0))) 38 6 v6) fun m7 => if 0 ≤ (m7 38 6) then (bn1 (f_X3_next m7) fun m8 => bn2 (f_X3_level 0 0 0 m8) fun v9 m10 => if v9 = 0 then some (0, m10) else if (m10 38 3) < (m10 38 2) then some (0, m10) else some (1, m10)) else some (0, m7) := by
    unfold f_X3_read
    rw [nms, nms, nms, nms, em, e1, bs]
  have hparse : f_X8_parse ν = bn1 (f_X8_key (mrow ν 0 F)) fun v11 => if v11 < 0 then f_X8_parse_J81 (mrow ν 0 F) v11 0 else f_X8_parse_J81 (mrow ν 0 F) v11 1 := by
    have e7 : ldM ((mset (mset (mset (mset (mset (mset ν 0 16 0) 0 17 3) 0 20 0) 0 21 0) 0 22 0) 0 24 0) 1) 3059 1 = some (nI n) := by
      rw [mset_n (by omega), mset_n (by omega), mset_n (by omega), mset_n (by omega), mset_n (by omega), mset_n (by omega)]
      exact (ldk (k := 1) (by omega)).trans (by rw [hs1])
    have hJ : f_X8_parse_J60 (mset (mset (mset (mset (mset (mset ν 0 16 0) 0 17 3) 0 20 0) 0 21 0) 0 22 0) 0 24 0) (nI (bsO n)) = bn1 (f_X8_key (mrow ν 0 F)) fun v11 => if v11 < 0 then f_X8_parse_J81 (mrow ν 0 F) v11 0 else f_X8_parse_J81 (mrow ν 0 F) v11 1 := by
      unfold f_X8_parse_J60
      rw [nms, en, e2, bs]
    unfold f_X8_parse
    rw [nms, nms, nms, nms, nms, nms, e7, bs, bs, textAt_n, bs]
    unfold bsO at hJ
    by_cases c : n < 14
    · rw [if_pos c] at hJ
      rw [if_neg (show ¬ (14 : Int32) ≤ nI n from nI_ge (b := 14) c (by omega)), show nI (59 + 200 * n) + 4 = nI (63 + 200 * n) from by show nI (59 + 200 * n) + nI 4 = _; rw [nI_add]; congr 1; omega]
      exact hJ
    · rw [if_neg c] at hJ
      rw [if_pos (show (14 : Int32) ≤ nI n from nI_le (a := 14) (by omega) (by omega))]
      exact hJ
  have frm : ∀ x F', (∀ p, ¬ (15 ≤ p ∧ p ≤ 24) → F' p = ν 0 p) → Fr (bsO n) μ ν (mrow μ 38 x) (mrow ν 0 F') := fun x F' hF' => ⟨fun i i1 i2 => mrow_n i1, fun i i1 i2 => mrow_n i1, fun p hp => by rw [mrow_s]; exact hF' p hp, fun r hr => by rw [mrow_n (by omega)]⟩
  have hF' : ∀ p, ¬ (15 ≤ p ∧ p ≤ 24) → F p = ν 0 p := fun p hp => by
    rw [fG p (by omega) (by omega) (by omega) (by omega) (by omega)]
    show upd (upd (upd (upd (upd (upd (upd (ν 0) 16 0) 17 3) 20 0) 21 0) 22 0) 24 0) 23 (nI (bsO n)) p = _
    rw [pk_un (by omega), pk_un (by omega), pk_un (by omega), pk_un (by omega), pk_un (by omega), pk_un (by omega), pk_un (by omega)]
  have k3 : (mrow μ 38 (upd (upd (upd F0 3 (nI s)) 4 (nI f)) 5 (nI 0))) 38 3 = nI s := by rw [mrow_s, pk_un (by omega), pk_un (by omega), pk_us]
  have k4 : (mrow μ 38 (upd (upd (upd F0 3 (nI s)) 4 (nI f)) 5 (nI 0))) 38 4 = nI f := by rw [mrow_s, pk_un (by omega), pk_us]
  have sL : s ≤ L := hx.2.1
  have noJ : ∀ v m, f_X8_parse_J111 v 0 m = some (-1, mset m 0 14 0) := fun v m => by
    unfold f_X8_parse_J111
    rw [nms, if_pos rfl]
  rcases key_2 hT2 k3 k4 (by rw [mrow_s]; exact f15) (by rw [mrow_s]; exact f16) (by rw [mrow_s]; exact fK) with ⟨q1, q2⟩ | ⟨key, hk, q1, q2, q3, q4⟩
  · refine Or.inl ⟨mrow μ 38 (upd (upd (upd (upd F0 3 (nI s)) 4 (nI f)) 5 (nI 0)) 6 (-1)), mrow ν 0 F, s, ?_, ?_, by omega, ?_, by rw [mrow_s]; exact f15, frm _ F hF'⟩
    · rw [hread, q1, bs, nms, mset_mrow, mrow_s, pk_us, if_neg (by decide)]
    · rw [hparse, q2, bs, if_pos (by decide)]
      unfold f_X8_parse_J81
      rw [if_pos rfl, noJ]
    · rw [mrow_s, pk_un (by omega), pk_un (by omega), pk_un (by omega), pk_us]
  · have hSt : St L T key (bsO n) μ ν s f 0 0 0 0 0 (fun _ => (0, 0)) (mrow μ 38 (upd (upd (upd (upd F0 3 (nI s)) 4 (nI f)) 5 (nI 0)) 6 (nI key))) (mrow ν 0 F) := by
      refine ⟨hT.of (mrow_n (by omega)) (mrow_n (by omega)), ?_, ?_, by rw [mrow_s]; exact fK, fun j hj => absurd hj (Nat.not_lt_zero j), ⟨fun j hj => absurd hj (Nat.not_lt_zero j), fun j hj => absurd hj (Nat.not_lt_zero j)⟩, frm _ F hF', b1, hk⟩
      · rw [mrow_s]
        refine ⟨?_, ?_, ?_, ?_, pk_us, ?_, ?_⟩
        · rw [mrow_s] at a2
          rw [pk_un (by omega), pk_un (by omega), pk_un (by omega), pk_un (by omega), a2]
        · rw [pk_un (by omega), pk_un (by omega), pk_un (by omega), pk_us]
        · rw [pk_un (by omega), pk_un (by omega), pk_us]
        · rw [pk_un (by omega), pk_us]
        · rw [pk_un (by omega), pk_un (by omega), pk_un (by omega), pk_un (by omega)]
          show upd (upd (upd (upd (μ 38) 3 0) 4 0) 7 0) 8 0 7 = _
          rw [pk_un (by omega), pk_us]
          rfl
        · rw [pk_un (by omega), pk_un (by omega), pk_un (by omega), pk_un (by omega)]
          show upd (upd (upd (upd (μ 38) 3 0) 4 0) 7 0) 8 0 8 = _
          rw [pk_us]
          rfl
      · rw [mrow_s]
        have gg : ∀ p, p ≠ 15 → p ≠ 16 → p ≠ 17 → p ≠ 18 → p ≠ 19 → F p = upd (upd (upd (upd (upd (upd (upd (ν 0) 16 0) 17 3) 20 0) 21 0) 22 0) 24 0) 23 (nI (bsO n)) p := fG
        refine ⟨?_, f15, f16, ?_, ?_, ?_, ?_, ?_⟩
        · rw [hF' 14 (by omega), h14]
        · rw [gg 20 (by omega) (by omega) (by omega) (by omega) (by omega), pk_un (by omega), pk_un (by omega), pk_un (by omega), pk_un (by omega), pk_us]
          rfl
        · rw [gg 21 (by omega) (by omega) (by omega) (by omega) (by omega), pk_un (by omega), pk_un (by omega), pk_un (by omega), pk_us]
          rfl
        · rw [gg 22 (by omega) (by omega) (by omega) (by omega) (by omega), pk_un (by omega), pk_un (by omega), pk_us]
          rfl
        · rw [gg 23 (by omega) (by omega) (by omega) (by omega) (by omega), pk_us]
        · rw [gg 24 (by omega) (by omega) (by omega) (by omega) (by omega), pk_un (by omega), pk_us]
          rfl
    obtain ⟨s1, f1, g1, μ1, ν1, n1, n2, l1, h1⟩ := next_2 hSt q3 (Or.inl q4)
    have hB := (read_all L T key (bsO n) μ ν 96).2 0 0 0 200 200 (by omega) (by omega) (by omega) (by omega) (by omega) (by omega)
    have hr2 : f_X3_read μ = bn2 (f_X3_level 0 0 0 μ1) fun v9 m10 => if v9 = 0 then some (0, m10) else if (m10 38 3) < (m10 38 2) then some (0, m10) else some (1, m10) := by
      rw [hread, q1, bs, nms, mset_mrow, mrow_s, pk_us, if_pos (nI_pos' (by omega)), n1, bs]
    have hp2 : f_X8_parse ν = bn2 (f_X8_either (nI key) ν1) fun v17 m18 => if v17 = 0 then f_X8_parse_J109 (nI key) m18 else if (m18 0 17) = 0 then f_X8_parse_J110 (nI key) m18 1 else f_X8_parse_J109 (nI key) m18 := by
      rw [hparse, q2, bs, if_neg (nI_pos (by omega))]
      unfold f_X8_parse_J81
      rw [if_neg one_0, n2, bs]
    have no9 : ∀ v m, f_X8_parse_J109 v m = some (-1, mset m 0 14 0) := fun v m => noJ v m
    rcases hB s1 f1 g1 0 0 _ μ1 ν1 h1 (by omega) with ⟨s2, f2, g2, k2, w2, S2, μ2, ν2, x1, x2, h3, l2, l3, d2⟩ | ⟨μ2, ν2, x1, x2, sF, sF1, sF2, sF3, sF4⟩
    · have s2L := h3.2.2.2.1.1
      have s2L2 := h3.2.2.2.1.2.1
      rw [show f_X3_level 0 0 0 μ1 = some (1, μ2) from x1, bs2, if_neg one_0, h3.2.1.1, h3.2.1.2.1] at hr2
      rw [show f_X8_either (nI key) ν1 = some (1, ν2) from x2, bs2, if_neg one_0] at hp2
      by_cases c : s2 < L
      · refine Or.inl ⟨μ2, ν2, s2, ?_, ?_, by omega, h3.2.1.2.1, h3.2.2.1.2.1, h3.2.2.2.2.2.2.1⟩
        · rw [hr2, if_pos (nI_lt c (by omega))]
        · have n0 : ¬ ν2 0 17 = 0 := by
            obtain ⟨-, -, hk4⟩ := h3.2.2.2.1
            rcases hk4 with ⟨z, -⟩ | ⟨-, -, -, -, z, -⟩ | ⟨-, -, -, -, z, -⟩ | ⟨-, -, -, -, z⟩
            · omega
            · rw [z]
              decide
            · rcases z with ⟨-, z⟩ | ⟨-, z⟩ <;> rw [z] <;> decide
            · rcases z with ⟨-, ⟨-, z, -⟩ | ⟨-, z⟩⟩ | ⟨-, z⟩ <;> rw [z] <;> decide
          rw [hp2, if_neg n0, no9]
      · have z0 : ν2 0 17 = 0 := by
          obtain ⟨-, -, hk4⟩ := h3.2.2.2.1
          rcases hk4 with ⟨-, -, -, z⟩ | ⟨z, -⟩ | ⟨z, -⟩ | ⟨z, -⟩
          · exact z
          · omega
          · omega
          · omega
        refine Or.inr ⟨key, s2, f2, g2, k2, w2, S2, μ2, ν2, ?_, ?_, h3, by omega, ?_⟩
        · rw [hr2, if_neg (nI_nlt (by omega) (by omega))]
        · rw [hp2, if_pos z0]
          unfold f_X8_parse_J110 f_X8_parse_J111
          rw [nms, if_neg one_0]
        · rw [d2]
          rfl
    · refine Or.inl ⟨μ2, ν2, sF, ?_, ?_, sF1, sF2, sF3, sF4⟩
      · rw [hr2, show f_X3_level 0 0 0 μ1 = some (0, μ2) from x1, bs2, if_pos rfl]
      · rw [hp2, show f_X8_either (nI key) ν1 = some (0, ν2) from x2, bs2, if_pos rfl, no9]
theorem Step_24 : Step Rel C7_24 C8_24 := by
  intro a μ ν hR
  have hR0 := hR
  obtain ⟨⟨t, w0, e1, e6, e7, e8⟩, ⟨L, hL, h2, h14, hj⟩, -, -, -⟩ := hR
  have hTw : ∃ (t : TB), Tw t w0 μ 21 (ν 1) ∧ TV t (tX w0) ∧ TC t μ (tX w0) ∧ ((μ 0 10 = 0 ∧ ν 0 3 = 0) ∨ (μ 0 10 = 1 ∧ ν 0 3 = 1 ∧ ∃ i, Tw t i μ 26 (ν 2) ∧ tX i ≤ tX w0)) := ⟨t, e1, e6, e7, e8⟩
  obtain ⟨hV, hY, hC, hM, hTM⟩ := e1
  have x14 := (tX_eq hV).2
  obtain ⟨b1, b2, b3⟩ := bsO_b x14
  have hT : Tp L (fun j => (ν 13 j).toNatClampNeg) μ ν := ⟨hL, fun j h => by
    obtain ⟨h1, z, hz, ez⟩ := hj j h
    show (ν 13 j).toNatClampNeg < 256 ∧ μ 39 j = nI (ν 13 j).toNatClampNeg ∧ ν 13 j = nI (ν 13 j).toNatClampNeg
    rw [h1, ez, nI_clamp (by omega)]
    exact ⟨hz, rfl, rfl⟩⟩
  have hs1 : ν 1 1 = nI (tX w0) := by rw [hM.2.1.1, (tX_eq hV).1]
  unfold C7_24 C8_24 f_X7_text f_X8_text
  rcases read_2 hT h2 h14 x14 hs1 with ⟨μ', ν', s, r1, r2, sL, z1, z2, hF⟩ | ⟨key, s, f, g, k, w, S, μ', ν', r1, r2, hSt, hk96, hd⟩
  · rw [r1, r2, bs2, bs2, nms, if_pos rfl, if_neg (show ¬ (0 : Int32) ≤ -1 by decide), mset_sn (by omega), z1, mset_sn (by omega), z2]
    exact ⟨_, _, _, rfl, rfl, Rel.fr (t := t) hR0 hF hTw⟩
  · obtain ⟨sT, ⟨c2, c3, c4, c5, c6, c7, c8⟩, ⟨m14, m15, m16, m20, m21, m22, m23, m24⟩, hK, hS, hVS, hF, hb, hk⟩ := hSt
    have s1' : ν' 1 1 = nI (tX w0) := by rw [hF.2.2.2 1 (by omega), hs1]
    have cc : ∀ i, i ≠ 38 → i ≠ 40 → mset μ' 38 2 0 i = μ i := fun i i1 i2 => by rw [mset_n i1]; exact hF.1 i i1 i2
    rw [r1, r2, bs2, bs2, nms, if_neg one_0, if_pos (nI_pos' (by omega)), cc 21 (by omega) (by omega), b14 hV hC, mset_n (i := 0) (j := 1) (by omega), show ldM (ν' 1) 3059 1 = some (nI (tX w0)) from (ldk (k := 1) (by omega)).trans (by rw [s1']), bs]
    by_cases c : tX w0 < 14
    · have nlt : nI (tX w0) < 14 := nI_lt (b := 14) c (by omega)
      have eb : bsO (tX w0) = 63 + 200 * tX w0 := if_pos c
      rw [if_pos nlt, if_neg (show ¬ nI (tX w0) = 14 from i_ne (n := 14) (by omega) (by omega) (by omega))]
      unfold f_X0_write
      rw [if_neg (nI_pos (by omega)), if_pos nlt, mset_sn (show (6 : Nat) ≠ 2 by omega), c6, stM_n c (by omega), bs, mset_n (i := 2) (j := 38) (by omega), mset_sn (show (7 : Nat) ≠ 2 by omega), c7, stM_n c (by omega), bs, mset_n (i := 3) (j := 38) (by omega), mset_n (i := 2) (j := 38) (by omega), mset_sn (show (8 : Nat) ≠ 2 by omega), c8, stM_n c (by omega), bs, rdM_n c (by omega), bs]
      have cp : ∀ m : Mem, cpM m 40 96 0 (7 + tX w0) 96 0 96 = some (mrow m (7 + tX w0) (va_cpy (m 40) (m (7 + tX w0)) 0 0 96)) := fun m => rfl
      rw [cp, bs, bs, nms]
      rw [bs, textAt_n, bs, show nI (59 + 200 * tX w0) + 0 = nI (59 + 200 * tX w0) from Int32.add_zero _, stM_n (by omega) (by omega), bs, show nI (59 + 200 * tX w0) + 1 = nI (60 + 200 * tX w0) from by rw [nI_1]; congr 1; omega, mset_n (i := 1) (j := 0) (by omega), mset_sn (show (24 : Nat) ≠ 14 by omega), m24, stM_n (by omega) (by omega), bs, show nI (59 + 200 * tX w0) + 2 = nI (61 + 200 * tX w0) from by show nI (59 + 200 * tX w0) + nI 2 = _; rw [nI_add]; congr 1; omega, mset_n (i := 1) (j := 0) (by omega), mset_n (i := 1) (j := 0) (by omega), mset_sn (show (22 : Nat) ≠ 14 by omega), m22, stM_n (by omega) (by omega), bs]
      sorry
    · have e14 : tX w0 = 14 := by omega
      rw [if_neg (show ¬ nI (tX w0) < 14 from nI_nlt (b := 14) (by omega) (by omega)), if_pos (show nI (tX w0) = 14 by rw [e14]; rfl)]
      exact ⟨-1000000003, _, _, rfl, rfl, Rel.fr (t := t) hR0 hF hTw⟩
