/-! CHECK -/
theorem seqE {S : Type} (P : S → Prop) (R : S → S → Prop) (hs : ∀ s, P s → ∃ s', R s s' ∧ P s') (s0 : S) (h0 : P s0) : ∃ f : Nat → S, f 0 = s0 ∧ ∀ k, P (f k) ∧ R (f k) (f (k + 1)) := by
  have g : ∀ s : {s // P s}, ∃ s' : {s // P s}, R s.1 s'.1 := fun s => by
    obtain ⟨s', h1, h2⟩ := hs s.1 s.2
    exact ⟨⟨s', h2⟩, h1⟩
  let nxt : {s // P s} → {s // P s} := fun s => Classical.choose (g s)
  have hn : ∀ s, R s.1 (nxt s).1 := fun s => Classical.choose_spec (g s)
  let f : Nat → {s // P s} := fun k => Nat.rec ⟨s0, h0⟩ (fun _ s => nxt s) k
  exact ⟨fun k => (f k).1, rfl, fun k => ⟨(f k).2, hn (f k)⟩⟩
theorem firstE (s : Nat → Prop) : ∀ N, s N → ∃ D, D ≤ N ∧ (∀ x, x < D → ¬ s x) ∧ s D := by
  intro N
  induction N using Nat.strongRecOn with
  | _ N ih =>
    intro h
    by_cases c : ∃ x, x < N ∧ s x
    · obtain ⟨x, h1, h2⟩ := c
      obtain ⟨D, d1, d2, d3⟩ := ih x h1 h2
      exact ⟨D, by omega, d2, d3⟩
    · exact ⟨N, Nat.le_refl _, fun x hx hs => c ⟨x, hx, hs⟩, h⟩
/-- the reference's memory, but for what a checked year writes -/
def SameK (ν ν' : Mem) : Prop := (∀ i, i ≠ 1 → i ≠ 14 → i ≠ 15 → i ≠ 18 → ν' i = ν i) ∧ ∀ q, 59 ≤ q → ν' 1 q = ν 1 q
theorem Step_37 : Step Rel C7_37 C8_37 := by
  intro a μ ν hR
  have hR0 := hR
  have hc9 : ∀ x : Mem, ∀ i, i ≠ 0 → mset x 0 9 0 i = x i := fun x i h => mset_n h
  have hm29 : ∀ x : Mem, ∀ i, i ≠ 0 → mset x 0 29 0 i = x i := fun x i h => mset_n h
  have hR1 : Rel (mset μ 0 9 0) (mset ν 0 29 0) := hR.wait (fun i h _ => mset_n h) (fun i h _ => mset_n h) (mset_sn (by omega)) (mset_sn (by omega)) (mset_sn (by omega)) ⟨0, by omega, mset_ss, mset_ss, fun j hj => absurd hj (Nat.not_lt_zero j)⟩
  obtain ⟨⟨t, w0, ⟨z1, z2, z3, z4, z5⟩, hTV0, hTC0, hI⟩, -, -, -, W, hW, w9, w29, wq⟩ := hR
  unfold C7_37 C8_37 f_X7_check f_X8_check
  simp only [o1_30, n1_30, bs, i01, i10, nms]
  by_cases h1 : 1 ≤ (a 1).toInt ∧ (a 1).toInt ≤ 30
  · simp only [if_pos h1]
    rw [mset_sn (show (10 : Nat) ≠ 9 by omega), mset_sn (show (3 : Nat) ≠ 29 by omega)]
    rcases hI with ⟨k1, k2⟩ | ⟨k1, k2, w, ⟨hV, ⟨y, hy, ey⟩, hC, hM, hTM⟩, hx⟩
    · rw [k1, k2]
      exact ⟨-1000000002, _, _, rfl, rfl, hR1⟩
    · obtain ⟨N, hN, e⟩ := upto (x := a 1) (n := 30) ⟨by omega, h1.2⟩ rfl
      have x14 := (tX_eq hV).2
      have x14' := (tX_eq z1).2
      have hTV := hTV0.le hx
      have hTC := hTC0.le hx
      rw [k1, k2, if_neg one_0, if_neg one_0]
      have hC1 : AC w (mset μ 0 9 0) 26 := hC.of (fun i i1 i2 => mset_n (by omega))
      obtain ⟨μ3, c0, cA, cS⟩ := become_C (b := 31) (b0 := 26) (by omega) hC1 hV
      have ec : (if (9999 - (μ3 26 12)) < a 1 then (9999 - (μ3 26 12)) else a 1) = nI (if 9999 - y < N then 9999 - y else N) := by
        rw [e, cS 26 (by omega), hC1.2.2.1 12 (by omega) (by omega), ey, show (9999 : Int32) - nI y = nI (9999 - y) from pk_sub (a := 9999) hy]
        by_cases c : 9999 - y < N
        · rw [if_pos c, if_pos (nI_lt c (by omega))]
        · rw [if_neg c, if_neg (nI_nlt (by omega) (by omega))]
      rw [c0, bs, ec, aside_M _ (by omega), bs, aside_M _ (by omega), bs, e]
      have hMM : (if 9999 - y < N then 9999 - y else N) ≤ N ∧ (if 9999 - y < N then 9999 - y else N) ≤ 9999 - y ∧ ((if 9999 - y < N then 9999 - y else N) = N ∨ (if 9999 - y < N then 9999 - y else N) = 9999 - y) := by
        split <;> omega
      generalize (if 9999 - y < N then 9999 - y else N) = M at hMM
      -- the reference's memory behind the two copies
      let ν3 : Mem := mrow (mset ν 0 29 0) 3 (fun q => if q < 2859 then (mset ν 0 29 0) 1 q else (mset ν 0 29 0) 3 q)
      let ν4 : Mem := mrow ν3 1 (fun q => if q < 2859 then ν3 2 q else ν3 1 q)
      have n4 : ∀ i, i ≠ 0 → i ≠ 1 → i ≠ 3 → ν4 i = ν i := fun i i0 i1 i3 => by
        show mrow ν3 1 _ i = _
        rw [mrow_n i1]
        show mrow (mset ν 0 29 0) 3 _ i = _
        rw [mrow_n i3, mset_n i0]
      have n41 : ∀ q, ν4 1 q = if q < 2859 then ν 2 q else ν 1 q := fun q => by
        show mrow ν3 1 _ 1 q = _
        rw [mrow_s]
        show (if q < 2859 then mrow (mset ν 0 29 0) 3 _ 2 q else mrow (mset ν 0 29 0) 3 _ 1 q) = _
        rw [mrow_n (by omega), mrow_n (by omega), mset_n (by omega), mset_n (by omega)]
      have n43 : ∀ q, q < 2859 → ν4 3 q = ν 1 q := fun q hq => by
        show mrow ν3 1 _ 3 q = _
        rw [mrow_n (by omega)]
        show mrow (mset ν 0 29 0) 3 _ 3 q = _
        rw [mrow_s, if_pos hq, mset_n (by omega)]
      have n40 : ν4 0 29 = 0 := by
        show mrow ν3 1 _ 0 29 = _
        rw [mrow_n (by omega)]
        show mrow (mset ν 0 29 0) 3 _ 0 29 = _
        rw [mrow_n (by omega), mset_ss]
      have n400 : ∀ p, p ≠ 29 → ν4 0 p = ν 0 p := fun p hp => by
        show mrow ν3 1 _ 0 p = _
        rw [mrow_n (by omega)]
        show mrow (mset ν 0 29 0) 3 _ 0 p = _
        rw [mrow_n (by omega), mset_sn hp]
      have g0 : Ru t (tX w) 31 w μ3 ν4 := by
        refine ⟨by omega, rfl, hV, cA, ?_, ?_, hTV, ?_⟩
        · exact hM.cut hV.1 (fun q hq => by rw [n41, if_pos (by omega)])
        · exact hTM.cut x14 hTV (fun q q1 q2 => by rw [n41, if_pos q2])
        · exact hTC.of x14 (fun i i1 i2 i3 => by rw [cS i (by omega), mset_n (by omega)])
      -- the years, one behind another
      obtain ⟨f, f0, hf⟩ := seqE (S := Nat × AT × Mem × Mem) (fun s => Ru t (tX w) 31 s.2.1 s.2.2.1 s.2.2.2 ∧ tS s.2.1 12 = nI (y + s.1) ∧ SameP 31 μ3 s.2.2.1 ∧ SameK ν4 s.2.2.2) (fun s s' => s'.1 = s.1 + 1 ∧ f_X6_pass 31 1 s.2.2.1 = some s'.2.2.1 ∧ ∃ m, f_X8_goesOn s.2.2.2 = some m ∧ s'.2.2.2 = mset (mset m 18 (2 * s.1) (nI (tM s'.2.1))) 18 (2 * s.1 + 1) (tS s'.2.1 10) ∧ m 18 = s.2.2.2 18 ∧ AV s'.2.1 ∧ AM s'.2.1 (m 1)) (fun s hs => by
        obtain ⟨i, a1, μ1, ν1⟩ := s
        obtain ⟨g, gy, gp, gk⟩ := hs
        obtain ⟨a2, μ2, ν2, c1, c2, g2, -, y2, p2, q2⟩ := one_2 g
        have ⟨k1, k2, k3, k4, k5, k6, k7, k8⟩ := g2
        refine ⟨(i + 1, a2, μ2, mset (mset ν2 18 (2 * i) (nI (tM a2))) 18 (2 * i + 1) (tS a2 10)), ⟨rfl, c1, ν2, c2, rfl, q2.1 18 (by omega) (by omega) (by omega), k3, k5⟩, ⟨k1, k2, k3, k4, ?_, ?_, k7, k8⟩, ?_, gp.tr p2, fun j j1 j2 j3 j4 => ?_, fun q hq => ?_⟩
        · show AM a2 (mset (mset ν2 18 (2 * i) (nI (tM a2))) 18 (2 * i + 1) (tS a2 10) 1)
          rw [mset_n (by omega), mset_n (by omega)]
          exact k5
        · show TM t (mset (mset ν2 18 (2 * i) (nI (tM a2))) 18 (2 * i + 1) (tS a2 10) 1) _
          rw [mset_n (by omega), mset_n (by omega)]
          exact k6
        · show tS a2 12 = nI (y + (i + 1))
          rw [y2, show tS a1 12 = nI (y + i) from gy, nI_1]
          rfl
        · show mset (mset ν2 18 (2 * i) (nI (tM a2))) 18 (2 * i + 1) (tS a2 10) j = _
          rw [mset_n j4, mset_n j4, q2.1 j j1 j2 j3]
          exact gk.1 j j1 j2 j3 j4
        · show mset (mset ν2 18 (2 * i) (nI (tM a2))) 18 (2 * i + 1) (tS a2 10) 1 q = _
          rw [mset_n (by omega), mset_n (by omega), q2.2 q hq]
          exact gk.2 q hq) (0, w, μ3, ν4) ⟨g0, ey, SameP.rf 31 μ3, fun i _ _ _ _ => rfl, fun q _ => rfl⟩
      have fk : ∀ k, (f k).1 = k := by
        intro k
        induction k with
        | zero => rw [f0]
        | succ k ih => rw [(hf k).2.1, ih]
      -- what is due
      let rr : Nat → Int32 := fun j => if j % 2 = 0 then nI (tM (f (j / 2 + 1)).2.1) else tS (f (j / 2 + 1)).2.1 10
      have r0 : ∀ k, rr (2 * k) = nI (tM (f (k + 1)).2.1) := fun k => by
        show (if (2 * k) % 2 = 0 then nI (tM (f (2 * k / 2 + 1)).2.1) else _) = _
        rw [if_pos (by omega), show 2 * k / 2 = k by omega]
      have r1 : ∀ k, rr (2 * k + 1) = tS (f (k + 1)).2.1 10 := fun k => by
        show (if (2 * k + 1) % 2 = 0 then _ else tS (f ((2 * k + 1) / 2 + 1)).2.1 10) = _
        rw [if_neg (by omega), show (2 * k + 1) / 2 = k by omega]
      have h18 : ∀ k j, j < 2 * k → (f k).2.2.2 18 j = rr j := by
        intro k
        induction k with
        | zero => intro j hj; omega
        | succ k ih =>
          intro j hj
          obtain ⟨-, -, m, -, e2, e3, -, -⟩ := (hf k).2
          rw [e2, fk k]
          by_cases c1 : j = 2 * k + 1
          · rw [c1, mset_ss, r1]
          · rw [mset_sn c1]
            by_cases c0 : j = 2 * k
            · rw [c0, mset_ss, r0]
            · rw [mset_sn c0, e3]
              exact ih j (by omega)
      have hloopM : lpF (fun v => f_X8_check_L64 (nI N) v.1 v.2.1 v.2.2) 4000 (0, 0, ν4) = some (nI (2 * M), (f M).2.2.2) := by
        refine lp0 (fun k => (nI (2 * k), nI k, (f k).2.2.2)) (nI (2 * M), (f M).2.2.2) M (by rw [f0]; rfl) (by omega) (fun k hk => ?_) ?_
        · show f_X8_check_L64 (nI N) (nI (2 * k)) (nI k) (f k).2.2.2 = _
          obtain ⟨⟨g, gy, gp, gk⟩, -, -, m, e1, e2, e3, v3, v5⟩ := hf k
          rw [fk k] at gy e2
          have m2 : ldM ((f k).2.2.2 1) 3059 2 = some (nI (y + k)) := (ldk (k := 2) (by omega)).trans (by rw [g.2.2.2.2.1.2.1.2.1, gy])
          unfold f_X8_check_L64
          rw [if_neg (nI_ge (by omega) (by omega)), m2, bs, if_neg (show ¬ (9999 : Int32) ≤ nI (y + k) from nI_ge (b := 9999) (by omega) (by omega)), e1, bs, forNow_M v3 v5, bs, stM_n (by omega) (by omega), bs, mset_n (by omega), show ldM (m 1) 3059 3 = some (tS (f (k + 1)).2.1 10) from (ldk (k := 3) (by omega)).trans (by rw [v5.2.1.2.2.1]), bs, nI_1, stM_n (by omega) (by omega), bs, ← e2, nI_1, show nI (2 * k) + 2 = nI (2 * (k + 1)) from by show nI (2 * k) + nI 2 = _; rw [nI_add]; congr 1]
        · show f_X8_check_L64 (nI N) (nI (2 * M)) (nI M) (f M).2.2.2 = _
          obtain ⟨⟨g, gy, gp, gk⟩, -⟩ := hf M
          rw [fk M] at gy
          have m2 : ldM ((f M).2.2.2 1) 3059 2 = some (nI (y + M)) := (ldk (k := 2) (by omega)).trans (by rw [g.2.2.2.2.1.2.1.2.1, gy])
          unfold f_X8_check_L64
          by_cases hkN : N ≤ M
          · rw [if_pos (nI_le hkN (by omega))]
          · rw [if_neg (nI_ge (by omega) (by omega)), m2, bs, if_pos (show (9999 : Int32) ≤ nI (y + M) from nI_le (a := 9999) (by omega) (by omega))]
      -- where the two part
      obtain ⟨D, d1, d2, d3⟩ := firstE (fun x => W ≤ x ∨ 2 * M ≤ x ∨ ν 17 x ≠ rr x) (2 * M) (Or.inr (Or.inl (Nat.le_refl _)))
      obtain ⟨⟨gM, gyM, gpM, gkM⟩, -⟩ := hf M
      -- the reference
      have q17 : (f M).2.2.2 17 = ν 17 := by rw [gkM.1 17 (by omega) (by omega) (by omega) (by omega), n4 17 (by omega) (by omega) (by omega)]
      have hback : mrow (f M).2.2.2 1 (fun q => if q < 2859 then (f M).2.2.2 3 q else (f M).2.2.2 1 q) = mrow (f M).2.2.2 1 (ν 1) := by
        congr 1
        funext q
        by_cases c : q < 2859
        · rw [if_pos c, gkM.1 3 (by omega) (by omega) (by omega) (by omega), n43 q c]
        · rw [if_neg c, gkM.2 q (by omega), n41, if_neg c]
      have hMres : f_X8_check_K64_119 ν (nI (2 * M)) (f M).2.2.2 = some (if D = 2 * M ∧ W = 2 * M then 0 else nI (D + 1), mrow (f M).2.2.2 1 (ν 1)) := by
        unfold f_X8_check_K64_119
        rw [aside_M _ (by omega), bs, hback]
        have hl : lpF (fun v => f_X8_check_L134 ν (nI (2 * M)) (mrow (f M).2.2.2 1 (ν 1)) v) 4000 0 = some (nI D) := by
          refine lp0 (fun k => nI k) (nI D) D rfl (by omega) (fun k hk => ?_) ?_
          · show f_X8_check_L134 ν (nI (2 * M)) (mrow (f M).2.2.2 1 (ν 1)) (nI k) = _
            have hk2 := d2 k hk
            have k1 : ¬ W ≤ k := fun z => hk2 (Or.inl z)
            have k2 : ¬ 2 * M ≤ k := fun z => hk2 (Or.inr (Or.inl z))
            have k3 : ν 17 k = rr k := Classical.byContradiction (fun z => hk2 (Or.inr (Or.inr z)))
            unfold f_X8_check_L134
            rw [w29, if_neg (nI_ge (by omega) (by omega)), if_neg (nI_ge (by omega) (by omega)), mrow_n (by omega), mrow_n (by omega), ldM_n (by omega) (by omega), bs, ldM_n (by omega) (by omega), bs, q17, h18 M k (by omega), if_pos k3, nI_1]
          · show f_X8_check_L134 ν (nI (2 * M)) (mrow (f M).2.2.2 1 (ν 1)) (nI D) = _
            unfold f_X8_check_L134
            rw [w29]
            by_cases c1 : W ≤ D
            · rw [if_pos (nI_le c1 (by omega))]
            · rw [if_neg (nI_ge (by omega) (by omega))]
              by_cases c2 : 2 * M ≤ D
              · rw [if_pos (nI_le c2 (by omega))]
              · have c3 : ν 17 D ≠ rr D := by
                  rcases d3 with z | z | z
                  · exact absurd z c1
                  · exact absurd z c2
                  · exact z
                rw [if_neg (nI_ge (by omega) (by omega)), mrow_n (by omega), mrow_n (by omega), ldM_n (by omega) (by omega), bs, ldM_n (by omega) (by omega), bs, q17, h18 M D (by omega), if_neg c3]
        rw [hl, bs]
        unfold f_X8_check_K134_169
        rw [w29, show (1 : Int32) + nI D = nI (D + 1) from by show nI 1 + nI D = _; rw [nI_add, Nat.add_comm]]
        by_cases c1 : D = W
        · rw [if_pos (by rw [c1])]
          by_cases c2 : D = 2 * M
          · rw [if_pos (by rw [c2]), if_pos ⟨c2, by omega⟩]
          · rw [if_neg (i_ne (by omega) (by omega) c2), if_neg (fun z => c2 z.1)]
        · rw [if_neg (i_ne (by omega) (by omega) c1), if_neg (fun z => c1 (by omega))]
      -- the class
      have hCres : ∃ μ', (bn1 (lpF (fun v => f_X7_check_L65 μ (nI M) v.1 v.2) 4000 (0, μ3)) (fun x => cs2 x (fun y => f_X7_check_K65_137 y.1 y.2) (fun x0 => f_X7_check_K65_148 μ (nI M) x0))) = some (if D = 2 * M ∧ W = 2 * M then 0 else nI (D + 1), μ') ∧ SameP 31 μ3 μ' := by
        have e2M : (2 : Int32) * nI M = nI (2 * M) := pk_mul 2 M
        have pass1 : ∀ k, f_X6_pass 31 1 (f k).2.2.1 = some (f (k + 1)).2.2.1 := fun k => (hf k).2.2.1
        have m6 : ∀ k, (f k).2.2.1 31 6 = nI (tM (f k).2.1) := fun k => (hf k).1.1.2.2.2.1.2.1
        have m10 : ∀ k, (f k).2.2.1 31 10 = tS (f k).2.1 10 := fun k => (hf k).1.1.2.2.2.1.2.2.1 10 (by omega) (by omega)
        have m66 : ∀ k j, j < W → (f k).2.2.1 66 j = ν 17 j := fun k j hj => by
          rw [(hf k).1.2.2.1 66 (by omega) (by omega), cS 66 (by omega), mset_n (by omega)]
          exact wq j hj
        have rm0 : ∀ k, k < 2 ^ 31 → rmM (nI k) 2 = some (nI (k % 2)) := fun k hk => rm_n (d := 2) hk (by omega) (by omega)
        have body : ∀ x, x < 2 * M → f_X7_check_L65 μ (nI M) (nI x) (f ((x + 1) / 2)).2.2.1 = (if W ≤ x then some (.inr (.inl (nI x, (f (x / 2 + 1)).2.2.1))) else if ν 17 x = rr x then some (.inl (nI (x + 1), (f (x / 2 + 1)).2.2.1)) else some (.inr (.inl (nI x, (f (x / 2 + 1)).2.2.1)))) := fun x hx => by
          have J : f_X7_check_J110 μ (nI x) (f (x / 2 + 1)).2.2.1 (rr x) = (if W ≤ x then some (.inr (.inl (nI x, (f (x / 2 + 1)).2.2.1))) else if ν 17 x = rr x then some (.inl (nI (x + 1), (f (x / 2 + 1)).2.2.1)) else some (.inr (.inl (nI x, (f (x / 2 + 1)).2.2.1)))) := by
            unfold f_X7_check_J110
            rw [w9]
            by_cases c1 : W ≤ x
            · rw [if_pos c1, if_pos (nI_le c1 (by omega))]
            · rw [if_neg c1, if_neg (nI_ge (by omega) (by omega)), if_neg (show ¬ (60 : Int32) ≤ nI x from nI_ge (b := 60) (by omega) (by omega)), ldM_n (by omega) (by omega), bs, m66 _ x (by omega), nI_1]
          rw [← J]
          unfold f_X7_check_L65 f_X7_check_J86
          rw [e2M, if_neg (nI_ge hx (by omega)), rm0 x (by omega), bs]
          by_cases c : x % 2 = 0
          · have ex : x = 2 * (x / 2) := by omega
            rw [c, if_pos (show nI 0 = 0 from rfl), show (x + 1) / 2 = x / 2 by omega, pass1, bs, bs, if_pos (show nI 0 = 0 from rfl), m6, ← r0 (x / 2), ← ex]
          · have ex : x = 2 * (x / 2) + 1 := by omega
            rw [show x % 2 = 1 by omega, if_neg (show ¬ nI 1 = 0 by decide), show (x + 1) / 2 = x / 2 + 1 by omega, bs, if_neg (show ¬ nI 1 = 0 by decide), m10, ← r1 (x / 2), ← ex]
        by_cases c : D = 2 * M
        · refine ⟨(f M).2.2.1, ?_, gpM⟩
          refine (bl (fun k => (nI k, (f ((k + 1) / 2)).2.2.1)) (.inr (f M).2.2.1) (2 * M) (by rw [show (0 + 1) / 2 = 0 from rfl, f0]; rfl) (by omega) (fun k hk => ?_) ?_).trans ?_
          · show f_X7_check_L65 μ (nI M) (nI k) (f ((k + 1) / 2)).2.2.1 = _
            have hk2 := d2 k (by omega)
            have k1 : ¬ W ≤ k := fun z => hk2 (Or.inl z)
            have k3 : ν 17 k = rr k := Classical.byContradiction (fun z => hk2 (Or.inr (Or.inr z)))
            rw [body k hk, if_neg k1, if_pos k3, show (k + 1 + 1) / 2 = k / 2 + 1 by omega]
          · show f_X7_check_L65 μ (nI M) (nI (2 * M)) (f ((2 * M + 1) / 2)).2.2.1 = _
            unfold f_X7_check_L65
            rw [e2M, if_pos (nI_le (Nat.le_refl _) (by omega)), show (2 * M + 1) / 2 = M by omega]
          · show f_X7_check_K65_148 μ (nI M) (f M).2.2.1 = _
            have hWM : 2 * M ≤ W := Nat.le_of_not_lt (fun z => d2 W (by omega) (Or.inl (Nat.le_refl _)))
            unfold f_X7_check_K65_148
            rw [w9, e2M, nI_1]
            by_cases c2 : W ≤ 2 * M
            · rw [if_pos (nI_le c2 (by omega)), if_pos ⟨c, by omega⟩]
            · rw [if_neg (nI_ge (by omega) (by omega)), if_neg (fun z => c2 (by omega)), c]
        · have dl : D < 2 * M := by omega
          refine ⟨(f (D / 2 + 1)).2.2.1, ?_, (hf (D / 2 + 1)).1.2.2.1⟩
          refine (bl (fun k => (nI k, (f ((k + 1) / 2)).2.2.1)) (.inl (nI D, (f (D / 2 + 1)).2.2.1)) D (by rw [show (0 + 1) / 2 = 0 from rfl, f0]; rfl) (by omega) (fun k hk => ?_) ?_).trans ?_
          · show f_X7_check_L65 μ (nI M) (nI k) (f ((k + 1) / 2)).2.2.1 = _
            have hk2 := d2 k (by omega)
            have k1 : ¬ W ≤ k := fun z => hk2 (Or.inl z)
            have k3 : ν 17 k = rr k := Classical.byContradiction (fun z => hk2 (Or.inr (Or.inr z)))
            rw [body k (by omega), if_neg k1, if_pos k3, show (k + 1 + 1) / 2 = k / 2 + 1 by omega]
          · show f_X7_check_L65 μ (nI M) (nI D) (f ((D + 1) / 2)).2.2.1 = _
            rw [body D dl]
            by_cases c1 : W ≤ D
            · rw [if_pos c1]
            · have c3 : ν 17 D ≠ rr D := by
                rcases d3 with z | z | z
                · exact absurd z c1
                · omega
                · exact z
              rw [if_neg c1, if_neg c3]
          · show f_X7_check_K65_137 (nI D) (f (D / 2 + 1)).2.2.1 = _
            unfold f_X7_check_K65_137
            rw [nI_1, if_neg (fun z => c z.1)]
      obtain ⟨μ', hC7, gp'⟩ := hCres
      refine ⟨if D = 2 * M ∧ W = 2 * M then 0 else nI (D + 1), μ', mrow (f M).2.2.2 1 (ν 1), hC7, ?_, hR1.of (fun i i1 i2 i3 => ?_) (fun i i1 i2 i3 i4 i5 i6 => ?_)⟩
      · show bn1 (lpF (fun v => f_X8_check_L64 (nI N) v.1 v.2.1 v.2.2) 4000 (0, 0, ν4)) (fun x => f_X8_check_K64_119 ν x.1 x.2) = _
        rw [hloopM, bs]
        exact hMres
      · rw [gp' i (by omega) i1, cS i (by omega)]
      · by_cases c : i = 1
        · rw [c, mrow_s, mset_n (by omega)]
        · rw [mrow_n c, gkM.1 i c i3 i4 i6]
          show mrow ν3 1 _ i = _
          rw [mrow_n c]
          show mrow (mset ν 0 29 0) 3 _ i = _
          rw [mrow_n i1]
  · simp only [if_neg h1]
    exact ⟨-1000000001, _, _, rfl, rfl, hR1⟩
