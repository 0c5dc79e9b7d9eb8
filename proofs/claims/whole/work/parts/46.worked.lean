/-! A TEXT WORKED -/
theorem div_m1 (x : Int32) : x / (-1) = -x := by
  apply Int32.toInt_inj.mp
  rw [Int32.toInt_div, show ((-1 : Int32).toInt) = -1 from rfl, Int32.toInt_neg, Int.tdiv_neg, Int.tdiv_one]
def sgn (c : Nat) : Prop := c = 38 ∨ c = 42 ∨ c = 43 ∨ c = 45 ∨ c = 47 ∨ c = 60 ∨ c = 61 ∨ c = 62 ∨ c = 124
def jn (c : Nat) (x y : Int32) : Int32 := (f_X0_joined (nI c) x y).getD 0
theorem joined_s {c : Nat} (x y : Int32) (hc : sgn c) : ∃ v, f_X0_joined (nI c) x y = some v ∧ f_X8_joined (nI c) x y = some v := by
  rcases hc with rfl | rfl | rfl | rfl | rfl | rfl | rfl | rfl | rfl
  · have e : f_X0_joined (nI 38) x y = (if x = 0 then some 0 else if y = 0 then some 0 else some 1) := rfl
    have e2 : f_X8_joined (nI 38) x y = (if x = 0 then some 0 else if y = 0 then some 0 else some 1) := rfl
    rw [e, e2]
    repeat' split
    all_goals exact ⟨_, rfl, rfl⟩
  · exact ⟨_, rfl, rfl⟩
  · exact ⟨_, rfl, rfl⟩
  · exact ⟨_, rfl, rfl⟩
  · have e : f_X0_joined (nI 47) x y = (if y = 0 then some 0 else bn1 (dvM x y) (fun v => some v)) := rfl
    have e2 : f_X8_joined (nI 47) x y = (if y = 0 then some 0 else if y = (-1) then some (-x) else bn1 (dvM x y) (fun v => some v)) := rfl
    rw [e, e2]
    by_cases h : y = 0
    · rw [if_pos h, if_pos h]
      exact ⟨_, rfl, rfl⟩
    · have ed : dvM x y = some (x / y) := if_neg h
      rw [if_neg h, if_neg h, ed, bs]
      by_cases h2 : y = -1
      · rw [if_pos h2, h2, div_m1]
        exact ⟨_, rfl, rfl⟩
      · rw [if_neg h2]
        exact ⟨_, rfl, rfl⟩
  · have e : f_X0_joined (nI 60) x y = (if y ≤ x then some 0 else some 1) := rfl
    have e2 : f_X8_joined (nI 60) x y = (if y ≤ x then some 0 else some 1) := rfl
    rw [e, e2]
    repeat' split
    all_goals exact ⟨_, rfl, rfl⟩
  · have e : f_X0_joined (nI 61) x y = (if x = y then some 1 else some 0) := rfl
    have e2 : f_X8_joined (nI 61) x y = (if x = y then some 1 else some 0) := rfl
    rw [e, e2]
    repeat' split
    all_goals exact ⟨_, rfl, rfl⟩
  · have e : f_X0_joined (nI 62) x y = (if x ≤ y then some 0 else some 1) := rfl
    have e2 : f_X8_joined (nI 62) x y = (if x ≤ y then some 0 else some 1) := rfl
    rw [e, e2]
    repeat' split
    all_goals exact ⟨_, rfl, rfl⟩
  · have e : f_X0_joined (nI 124) x y = (if x = 0 then if y = 0 then some 0 else some 1 else some 1) := rfl
    have e2 : f_X8_joined (nI 124) x y = (if x = 0 then if y = 0 then some 0 else some 1 else some 1) := rfl
    rw [e, e2]
    repeat' split
    all_goals exact ⟨_, rfl, rfl⟩
theorem joined_C {c : Nat} (x y : Int32) (hc : sgn c) : f_X0_joined (nI c) x y = some (jn c x y) := by
  obtain ⟨v, e, -⟩ := joined_s x y hc
  unfold jn
  rw [e]
  rfl
theorem joined_M {c : Nat} (x y : Int32) (hc : sgn c) : f_X8_joined (nI c) x y = some (jn c x y) := by
  obtain ⟨v, e, e2⟩ := joined_s x y hc
  unfold jn
  rw [e, e2]
  rfl
def lf (key : Nat) (w : Nat → Int32) (q : Nat × Nat) : Int32 := if q.1 = 0 then nI q.2 else w (nmIx key q.2)
/-- the pile behind j steps -/
def pil (key : Nat) (w : Nat → Int32) (s : Nat → Nat × Nat) : Nat → Nat → Int32
  | 0 => fun _ => 0
  | j + 1 => if (s j).1 = 2 then (if (s j).2 = 33 then upd (pil key w s j) (dep s j - 1) (if pil key w s j (dep s j - 1) = 0 then 1 else 0) else upd (pil key w s j) (dep s j - 1 - 1) (jn (s j).2 (pil key w s j (dep s j - 1 - 1)) (pil key w s j (dep s j - 1)))) else upd (pil key w s j) (dep s j) (lf key w (s j))
theorem dep_le (s : Nat → Nat × Nat) : ∀ j, dep s j ≤ j
  | 0 => Nat.le_refl 0
  | j + 1 => by
    have := dep_le s j
    unfold dep
    repeat' split
    all_goals omega
theorem nmIx_le (key c : Nat) : nmIx key c ≤ 2 := by
  unfold nmIx
  repeat' split
  all_goals omega
theorem okS_sgn {key : Nat} {q : Nat × Nat} (h : okS key q) (h1 : q.1 = 2) (h2 : q.2 ≠ 33) : sgn q.2 := by
  rcases h with ⟨h, -⟩ | ⟨h, -⟩ | ⟨-, h⟩
  · omega
  · omega
  · rcases h with h | h
    · exact absurd h h2
    · exact h
theorem sgn_enc {c : Nat} (h : sgn c) : (-(nI c) : Int32) < -4 ∧ -(-(nI c) : Int32) = nI c := by
  rcases h with rfl | rfl | rfl | rfl | rfl | rfl | rfl | rfl | rfl <;> exact ⟨by decide, by decide⟩
theorem leaf_C {key : Nat} {q : Nat × Nat} (h : okS key q) (h1 : q.1 ≠ 2) (x y z : Int32) : ¬ enc key q < -4 ∧ ¬ enc key q = -4 ∧ f_X0_leaf (enc key q) x y z = some (lf key (fun k => if k = 0 then x else if k = 1 then y else z) q) := by
  rcases h with ⟨h, h2⟩ | ⟨h, h2⟩ | ⟨h, -⟩
  · have e : enc key q = nI q.2 := if_pos h
    have n : ∀ m : Int32, m < 0 → ¬ nI q.2 = m := fun m hm z => by
      have hp := nI_pos (n := q.2) (by omega)
      rw [z] at hp
      exact hp hm
    rw [e]
    refine ⟨fun z => ?_, n _ (by decide), ?_⟩
    · have := Int32.lt_iff_toInt_lt.mp z
      rw [nI_toInt (by omega), show ((-4 : Int32).toInt) = -4 from rfl] at this
      omega
    · unfold f_X0_leaf lf
      rw [if_neg (n _ (by decide)), if_neg (n _ (by decide)), if_neg (n _ (by decide)), if_pos h]
  · have e : enc key q = -(nI (1 + nmIx key q.2)) := by
      unfold enc
      rw [if_neg (by omega), if_pos h]
    have l := nmIx_le key q.2
    rw [e]
    unfold lf
    rw [if_neg (by omega)]
    rcases (by omega : nmIx key q.2 = 0 ∨ nmIx key q.2 = 1 ∨ nmIx key q.2 = 2) with k | k | k <;> rw [k]
    · exact ⟨by decide, by decide, rfl⟩
    · exact ⟨by decide, by decide, rfl⟩
    · exact ⟨by decide, by decide, rfl⟩
  · exact absurd h h1
theorem m1_n {n : Nat} (h : 1 ≤ n) : nI n - 1 = nI (n - 1) := by rw [show (1 : Int32) = nI 1 from rfl, pk_sub h]
theorem gives_C {t : TB} {μ : Mem} {n i : Nat} (hn : n ≤ 14) (hi : i < n) (hv : TV t n) (h : TC t μ n) (x y z : Int32) : ∃ f, f_X0_gives (nI i) x y z μ = some (pil (bK t i) (fun k => if k = 0 then x else if k = 1 then y else z) (bS t i) (bL t i) 0, mrow μ 6 f) := by
  obtain ⟨v1, v2, v3, v4, v5⟩ := hv i hi
  obtain ⟨c1, c2, c3, c4⟩ := h i hi
  let w : Nat → Int32 := fun k => if k = 0 then x else if k = 1 then y else z
  have hloop : ∃ m, lpF (fun v => f_X0_gives_L26 (nI i) x y z i v.1 v.2.1 v.2.2) 4000 (0, 0, μ) = some m ∧ ∃ f, m = mrow μ 6 f ∧ f 0 = pil (bK t i) w (bS t i) (bL t i) 0 := by
    refine lpE (fun j v => ∃ f, v = (nI (dep (bS t i) j), nI j, mrow μ 6 f) ∧ ∀ k, k < dep (bS t i) j → f k = pil (bK t i) w (bS t i) j k) (fun m => ∃ f, m = mrow μ 6 f ∧ f 0 = pil (bK t i) w (bS t i) (bL t i) 0) (bL t i) (by omega) ⟨μ 6, by rw [mrow_id]; rfl, fun k hk => absurd hk (Nat.not_lt_zero k)⟩ (fun j v hj hp => ?_) (fun v hp => ?_)
    · obtain ⟨f, rfl, hf⟩ := hp
      have hd := dep_le (bS t i) j
      have ho := v3 j hj
      show ∃ v', f_X0_gives_L26 (nI i) x y z i (nI (dep (bS t i) j)) (nI j) (mrow μ 6 f) = some (.inl v') ∧ _
      unfold f_X0_gives_L26 f_X0_gives_J98 f_X0_gives_J135 f_X0_gives_J179
      rw [mrow_n (i := 6) (j := 4) (by omega), ldM_n (by omega) (by omega), bs, c3, if_neg (nI_ge hj (by omega)), if_neg (show ¬ (96 : Int32) ≤ nI j from nI_ge (b := 96) (by omega) (by omega)), mrow_n (i := 6) (j := 7 + i) (by omega), ldM_n (by omega) (by omega), bs, c4 j hj, mrow_s, nI_1]
      by_cases q1 : (bS t i j).1 = 2
      · rcases v4 j hj q1 with ⟨q2, d1⟩ | ⟨q2, d2⟩
        · have ee : enc (bK t i) (bS t i j) = -4 := by
            unfold enc
            rw [if_neg (by omega), if_neg (by omega), if_pos q2]
          have ed : dep (bS t i) (j + 1) = dep (bS t i) j := by
            show (if (bS t i j).1 = 2 then (if (bS t i j).2 = 33 then dep (bS t i) j else dep (bS t i) j - 1) else dep (bS t i) j + 1) = _
            rw [if_pos q1, if_pos q2]
          have ep : pil (bK t i) w (bS t i) (j + 1) = upd (pil (bK t i) w (bS t i) j) (dep (bS t i) j - 1) (if pil (bK t i) w (bS t i) j (dep (bS t i) j - 1) = 0 then 1 else 0) := by
            rw [pil, if_pos q1, if_pos q2]
          rw [ee, if_neg (show ¬ (-4 : Int32) < -4 by decide), if_pos rfl, if_pos rfl, if_neg (show ¬ nI (dep (bS t i) j) ≤ 0 from nI_nle (by omega) (by omega)), m1_n d1, ldM_n (by omega) (by omega), bs, hf _ (by omega)]
          refine ⟨(nI (dep (bS t i) (j + 1)), nI (j + 1), mrow μ 6 (upd f (dep (bS t i) j - 1) (if pil (bK t i) w (bS t i) j (dep (bS t i) j - 1) = 0 then 1 else 0))), ?_, _, rfl, fun k hk => ?_⟩
          · rw [ed]
            by_cases hz : pil (bK t i) w (bS t i) j (dep (bS t i) j - 1) = 0
            · rw [if_pos hz, if_pos hz, stM_n (by omega) (by omega), bs, mset_mrow]
            · rw [if_neg hz, if_neg hz, stM_n (by omega) (by omega), bs, mset_mrow]
          · rw [ed] at hk
            rw [ep]
            by_cases e : k = dep (bS t i) j - 1
            · rw [e, pk_us, pk_us]
            · rw [pk_un e, pk_un e]
              exact hf k hk
        · have hs := okS_sgn ho q1 q2
          obtain ⟨n1, n2⟩ := sgn_enc hs
          have ee : enc (bK t i) (bS t i j) = -(nI (bS t i j).2) := by
            unfold enc
            rw [if_neg (by omega), if_neg (by omega), if_neg q2]
          have ed : dep (bS t i) (j + 1) = dep (bS t i) j - 1 := by
            show (if (bS t i j).1 = 2 then (if (bS t i j).2 = 33 then dep (bS t i) j else dep (bS t i) j - 1) else dep (bS t i) j + 1) = _
            rw [if_pos q1, if_neg q2]
          have ep : pil (bK t i) w (bS t i) (j + 1) = upd (pil (bK t i) w (bS t i) j) (dep (bS t i) j - 1 - 1) (jn (bS t i j).2 (pil (bK t i) w (bS t i) j (dep (bS t i) j - 1 - 1)) (pil (bK t i) w (bS t i) j (dep (bS t i) j - 1))) := by
            rw [pil, if_pos q1, if_neg q2]
          rw [ee, if_pos n1, if_neg (show ¬ nI (dep (bS t i) j) ≤ 1 from nI_ge (b := dep (bS t i) j) (a := 1) (by omega) (by omega)), add_m1, m1_n (by omega), m1_n (by omega), ldM_n (by omega) (by omega), bs, ldM_n (by omega) (by omega), bs, hf _ (by omega), hf _ (by omega), n2, joined_C _ _ hs, bs, stM_n (by omega) (by omega), bs, mset_mrow]
          refine ⟨(nI (dep (bS t i) (j + 1)), nI (j + 1), _), by rw [ed], _, rfl, fun k hk => ?_⟩
          rw [ed] at hk
          rw [ep]
          by_cases e : k = dep (bS t i) j - 1 - 1
          · rw [e, pk_us, pk_us]
          · rw [pk_un e, pk_un e]
            exact hf k (by omega)
      · obtain ⟨l1, l2, l3⟩ := leaf_C ho q1 x y z
        have ed : dep (bS t i) (j + 1) = dep (bS t i) j + 1 := by
          show (if (bS t i j).1 = 2 then (if (bS t i j).2 = 33 then dep (bS t i) j else dep (bS t i) j - 1) else dep (bS t i) j + 1) = _
          rw [if_neg q1]
        have ep : pil (bK t i) w (bS t i) (j + 1) = upd (pil (bK t i) w (bS t i) j) (dep (bS t i) j) (lf (bK t i) w (bS t i j)) := by
          rw [pil, if_neg q1]
        rw [if_neg l1, if_neg l2, if_neg (show ¬ (96 : Int32) ≤ nI (dep (bS t i) j) from nI_ge (b := 96) (by omega) (by omega)), l3, bs, stM_n (by omega) (by omega), bs, mset_mrow]
        refine ⟨(nI (dep (bS t i) (j + 1)), nI (j + 1), _), by rw [ed, nI_1], _, rfl, fun k hk => ?_⟩
        rw [ed] at hk
        rw [ep]
        by_cases e : k = dep (bS t i) j
        · rw [e, pk_us, pk_us]
        · rw [pk_un e, pk_un e]
          exact hf k (by omega)
    · obtain ⟨f, rfl, hf⟩ := hp
      show ∃ m, f_X0_gives_L26 (nI i) x y z i (nI (dep (bS t i) (bL t i))) (nI (bL t i)) (mrow μ 6 f) = some (.inr m) ∧ _
      unfold f_X0_gives_L26
      rw [mrow_n (i := 6) (j := 4) (by omega), ldM_n (by omega) (by omega), bs, c3, if_pos (nI_le (Nat.le_refl _) (by omega))]
      exact ⟨_, rfl, f, rfl, hf 0 (by omega)⟩
  obtain ⟨m, e, f, rfl, hf⟩ := hloop
  refine ⟨f, ?_⟩
  unfold f_X0_gives f_X0_gives_K26_185
  rw [if_neg (nI_pos (by omega)), if_pos (show nI i < (14 : Int32) from nI_lt (b := 14) (by omega) (by omega)), rdM_n (by omega) (by omega), bs, e, bs, mrow_s, show (0 : Int32) = nI 0 from rfl, ldM_n (by omega) (by omega), bs, hf]
theorem worked_M {t : TB} {a : AT} {ν : Mem} {i : Nat} (hV : AV a) (hi : i < tX a) (hv : TV t (tX a)) (h : TM t (ν 1) (tX a)) (w : Nat → Int32) (hw : ∀ j, j < bL t i → (bS t i j).1 = 1 → ν 14 (bS t i j).2 = w (nmIx (bK t i) (bS t i j).2)) : ∃ f, f_X8_worked (nI i) ν = some (pil (bK t i) w (bS t i) (bL t i) 0, mrow ν 15 f) := by
  have x14 := (tX_eq hV).2
  obtain ⟨v1, v2, v3, v4, v5⟩ := hv i hi
  obtain ⟨c1, c2, c3, c4⟩ := h i hi
  have hloop : ∃ m, lpF (fun v => f_X8_worked_L4 (nI i) v.1 v.2.1 v.2.2) 4000 (0, 0, ν) = some m ∧ ∃ f, m = mrow ν 15 f ∧ f 0 = pil (bK t i) w (bS t i) (bL t i) 0 := by
    refine lpE (fun j v => ∃ f, v = (nI (dep (bS t i) j), nI j, mrow ν 15 f) ∧ ∀ k, k < dep (bS t i) j → f k = pil (bK t i) w (bS t i) j k) (fun m => ∃ f, m = mrow ν 15 f ∧ f 0 = pil (bK t i) w (bS t i) (bL t i) 0) (bL t i) (by omega) ⟨ν 15, by rw [mrow_id]; rfl, fun k hk => absurd hk (Nat.not_lt_zero k)⟩ (fun j v hj hp => ?_) (fun v hp => ?_)
    · obtain ⟨f, rfl, hf⟩ := hp
      have hd := dep_le (bS t i) j
      have ho := v3 j hj
      show ∃ v', f_X8_worked_L4 (nI i) (nI (dep (bS t i) j)) (nI j) (mrow ν 15 f) = some (.inl v') ∧ _
      have p2 : nI (59 + 200 * i) + 2 = nI (61 + 200 * i) := by
        show nI (59 + 200 * i) + nI 2 = _
        rw [nI_add]
        congr 1
        omega
      have p4 : (nI (59 + 200 * i) + 4) + 2 * nI j = nI (63 + 200 * i + 2 * j) := by
        show (nI (59 + 200 * i) + nI 4) + nI 2 * nI j = _
        rw [nI_add, pk_mul, nI_add]
        congr 1
        omega
      have p5 : nI (63 + 200 * i + 2 * j) + 1 = nI (64 + 200 * i + 2 * j) := by
        rw [nI_1]
        congr 1
        omega
      obtain ⟨s1, s2⟩ := c4 j hj
      unfold f_X8_worked_L4 f_X8_worked_J86 f_X8_worked_J123 f_X8_worked_J157
      simp only [textAt_n, bs]
      rw [p2, p4, p5, mrow_n (i := 15) (j := 1) (by omega), mrow_n (i := 15) (j := 14) (by omega), mrow_s, ldM_n (by omega) (by omega), bs, c3, if_neg (nI_ge hj (by omega)), ldM_n (by omega) (by omega), bs, ldM_n (by omega) (by omega), bs, s1, s2, nI_1]
      by_cases q1 : (bS t i j).1 = 2
      · rw [q1, if_pos (show nI 2 = 2 from rfl)]
        rcases v4 j hj q1 with ⟨q2, d1⟩ | ⟨q2, d2⟩
        · have ed : dep (bS t i) (j + 1) = dep (bS t i) j := by
            show (if (bS t i j).1 = 2 then (if (bS t i j).2 = 33 then dep (bS t i) j else dep (bS t i) j - 1) else dep (bS t i) j + 1) = _
            rw [if_pos q1, if_pos q2]
          have ep : pil (bK t i) w (bS t i) (j + 1) = upd (pil (bK t i) w (bS t i) j) (dep (bS t i) j - 1) (if pil (bK t i) w (bS t i) j (dep (bS t i) j - 1) = 0 then 1 else 0) := by
            rw [pil, if_pos q1, if_pos q2]
          rw [q2, if_pos (show nI 33 = 33 from rfl), m1_n d1, ldM_n (by omega) (by omega), bs, hf _ (by omega)]
          refine ⟨(nI (dep (bS t i) (j + 1)), nI (j + 1), mrow ν 15 (upd f (dep (bS t i) j - 1) (if pil (bK t i) w (bS t i) j (dep (bS t i) j - 1) = 0 then 1 else 0))), ?_, _, rfl, fun k hk => ?_⟩
          · rw [ed]
            by_cases hz : pil (bK t i) w (bS t i) j (dep (bS t i) j - 1) = 0
            · rw [if_pos hz, if_pos hz, stM_n (by omega) (by omega), bs, mset_mrow]
            · rw [if_neg hz, if_neg hz, stM_n (by omega) (by omega), bs, mset_mrow]
          · rw [ed] at hk
            rw [ep]
            by_cases e : k = dep (bS t i) j - 1
            · rw [e, pk_us, pk_us]
            · rw [pk_un e, pk_un e]
              exact hf k hk
        · have hs := okS_sgn ho q1 q2
          have ed : dep (bS t i) (j + 1) = dep (bS t i) j - 1 := by
            show (if (bS t i j).1 = 2 then (if (bS t i j).2 = 33 then dep (bS t i) j else dep (bS t i) j - 1) else dep (bS t i) j + 1) = _
            rw [if_pos q1, if_neg q2]
          have ep : pil (bK t i) w (bS t i) (j + 1) = upd (pil (bK t i) w (bS t i) j) (dep (bS t i) j - 1 - 1) (jn (bS t i j).2 (pil (bK t i) w (bS t i) j (dep (bS t i) j - 1 - 1)) (pil (bK t i) w (bS t i) j (dep (bS t i) j - 1))) := by
            rw [pil, if_pos q1, if_neg q2]
          have n33 : ¬ nI (bS t i j).2 = 33 := by
            rcases hs with e | e | e | e | e | e | e | e | e <;> rw [e] <;> decide
          rw [if_neg n33, add_m1, m1_n (by omega), m1_n (by omega), ldM_n (by omega) (by omega), bs, ldM_n (by omega) (by omega), bs, hf _ (by omega), hf _ (by omega), joined_M _ _ hs, bs, stM_n (by omega) (by omega), bs, mset_mrow]
          refine ⟨(nI (dep (bS t i) (j + 1)), nI (j + 1), _), by rw [ed], _, rfl, fun k hk => ?_⟩
          rw [ed] at hk
          rw [ep]
          by_cases e : k = dep (bS t i) j - 1 - 1
          · rw [e, pk_us, pk_us]
          · rw [pk_un e, pk_un e]
            exact hf k (by omega)
      · have ed : dep (bS t i) (j + 1) = dep (bS t i) j + 1 := by
          show (if (bS t i j).1 = 2 then (if (bS t i j).2 = 33 then dep (bS t i) j else dep (bS t i) j - 1) else dep (bS t i) j + 1) = _
          rw [if_neg q1]
        have ep : pil (bK t i) w (bS t i) (j + 1) = upd (pil (bK t i) w (bS t i) j) (dep (bS t i) j) (lf (bK t i) w (bS t i j)) := by
          rw [pil, if_neg q1]
        have hl : (if nI (bS t i j).1 = 0 then bn1 (stM (mrow ν 15 f) 15 100 (nI (dep (bS t i) j)) (nI (bS t i j).2)) (fun m22 => some (.inl (nI (dep (bS t i) j) + 1, nI (j + 1), m22))) else bn1 (ldM (ν 14) 128 (nI (bS t i j).2)) (fun v23 => bn1 (stM (mrow ν 15 f) 15 100 (nI (dep (bS t i) j)) v23) (fun m22 => some (.inl (nI (dep (bS t i) j) + 1, nI (j + 1), m22))))) = (some (.inl (nI (dep (bS t i) j + 1), nI (j + 1), mrow ν 15 (upd f (dep (bS t i) j) (lf (bK t i) w (bS t i j))))) : Option ((Int32 × Int32 × Mem) ⊕ Mem)) := by
          rcases ho with ⟨h, h2⟩ | ⟨h, h2⟩ | ⟨h, -⟩
          · rw [h, if_pos (show nI 0 = 0 from rfl), stM_n (by omega) (by omega), bs, mset_mrow, nI_1]
            unfold lf
            rw [if_pos h]
          · have hl : (bS t i j).2 < 128 := by
              rcases h2 with ⟨-, h2⟩ | ⟨-, h2⟩ | ⟨-, h2⟩
              · rcases h2 with h2 | h2 | h2 <;> omega
              · rcases h2 with h2 | h2 <;> omega
              · rcases h2 with h2 | h2 <;> omega
            rw [h, if_neg (show ¬ nI 1 = 0 by decide), ldM_n hl (by omega), bs, hw j hj h, stM_n (by omega) (by omega), bs, mset_mrow, nI_1]
            unfold lf
            rw [if_neg (by omega)]
          · exact absurd h q1
        rw [if_neg (show ¬ nI (bS t i j).1 = 2 from fun z => q1 ((@nI_eq (bS t i j).1 2 (by rcases ho with ⟨h, -⟩ | ⟨h, -⟩ | ⟨h, -⟩ <;> omega) (by omega)).mp z)), hl]
        refine ⟨(nI (dep (bS t i) (j + 1)), nI (j + 1), _), by rw [ed], _, rfl, fun k hk => ?_⟩
        rw [ed] at hk
        rw [ep]
        by_cases e : k = dep (bS t i) j
        · rw [e, pk_us, pk_us]
        · rw [pk_un e, pk_un e]
          exact hf k (by omega)
    · obtain ⟨f, rfl, hf⟩ := hp
      show ∃ m, f_X8_worked_L4 (nI i) (nI (dep (bS t i) (bL t i))) (nI (bL t i)) (mrow ν 15 f) = some (.inr m) ∧ _
      unfold f_X8_worked_L4
      rw [textAt_n, bs, show nI (59 + 200 * i) + 2 = nI (61 + 200 * i) from by
        show nI (59 + 200 * i) + nI 2 = _
        rw [nI_add]
        congr 1
        omega, mrow_n (i := 15) (j := 1) (by omega), ldM_n (by omega) (by omega), bs, c3, if_pos (nI_le (Nat.le_refl _) (by omega))]
      exact ⟨_, rfl, f, rfl, hf 0 (by omega)⟩
  obtain ⟨m, e, f, rfl, hf⟩ := hloop
  refine ⟨f, ?_⟩
  unfold f_X8_worked f_X8_worked_K4_163
  rw [e, bs, mrow_s, show (0 : Int32) = nI 0 from rfl, ldM_n (by omega) (by omega), bs, hf]
