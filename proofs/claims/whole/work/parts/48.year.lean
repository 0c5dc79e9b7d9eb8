/-! ONE YEAR, of both side by side -/
theorem lpT {V X W Y : Type} {b1 : V → Option (V ⊕ X)} {b2 : W → Option (W ⊕ Y)} (P : Nat → V → W → Prop) (Q : X → Y → Prop) (N : Nat) (h : ∀ k v w, k ≤ N → P k v w → (∃ x y, b1 v = some (.inr x) ∧ b2 w = some (.inr y) ∧ Q x y) ∨ (k < N ∧ ∃ v' w', b1 v = some (.inl v') ∧ b2 w = some (.inl w') ∧ P (k + 1) v' w')) {f1 f2 : Nat} (h1 : N < f1) (h2 : N < f2) {v : V} {w : W} (h0 : P 0 v w) : ∃ x y, lpF b1 f1 v = some x ∧ lpF b2 f2 w = some y ∧ Q x y := by
  have g : ∀ m k f1 f2 v w, k + m = N → m < f1 → m < f2 → P k v w → ∃ x y, lpF b1 f1 v = some x ∧ lpF b2 f2 w = some y ∧ Q x y := by
    intro m
    induction m with
    | zero =>
      intro k f1 f2 v w hk hf1 hf2 hp
      cases f1 with
      | zero => omega
      | succ f1 =>
        cases f2 with
        | zero => omega
        | succ f2 =>
          rcases h k v w (by omega) hp with ⟨x, y, e1, e2, hq⟩ | ⟨hl, -⟩
          · exact ⟨x, y, by rw [lpF, e1], by rw [lpF, e2], hq⟩
          · omega
    | succ m ih =>
      intro k f1 f2 v w hk hf1 hf2 hp
      cases f1 with
      | zero => omega
      | succ f1 =>
        cases f2 with
        | zero => omega
        | succ f2 =>
          rcases h k v w (by omega) hp with ⟨x, y, e1, e2, hq⟩ | ⟨hl, v', w', e1, e2, hp'⟩
          · exact ⟨x, y, by rw [lpF, e1], by rw [lpF, e2], hq⟩
          · obtain ⟨x, y, g1, g2, hq⟩ := ih (k + 1) f1 f2 v' w' (by omega) (by omega) (by omega) hp'
            exact ⟨x, y, by rw [lpF, e1]; exact g1, by rw [lpF, e2]; exact g2, hq⟩
  exact g N 0 f1 f2 v w (by omega) h1 h2 h0
def SameP (b : Nat) (μ μ' : Mem) : Prop := ∀ i, ¬ (b ≤ i ∧ i ≤ b + 4) → i ≠ 6 → μ' i = μ i
def SameQ (ν ν' : Mem) : Prop := (∀ i, i ≠ 1 → i ≠ 14 → i ≠ 15 → ν' i = ν i) ∧ ∀ q, 59 ≤ q → ν' 1 q = ν 1 q
theorem SameP.rf (b : Nat) (μ : Mem) : SameP b μ μ := fun _ _ _ => rfl
theorem SameQ.rf (ν : Mem) : SameQ ν ν := ⟨fun _ _ _ _ => rfl, fun _ _ => rfl⟩
theorem SameP.tr {b : Nat} {x y z : Mem} (h : SameP b x y) (h2 : SameP b y z) : SameP b x z := fun i h3 h4 => (h2 i h3 h4).trans (h i h3 h4)
theorem SameQ.tr {x y z : Mem} (h : SameQ x y) (h2 : SameQ y z) : SameQ x z := ⟨fun i h3 h4 h5 => (h2.1 i h3 h4 h5).trans (h.1 i h3 h4 h5), fun q hq => (h2.2 q hq).trans (h.2 q hq)⟩
theorem SameP.m {b : Nat} {μ : Mem} {i k : Nat} {v : Int32} (h : b ≤ i ∧ i ≤ b + 4) : SameP b μ (mset μ i k v) := fun j h1 _ => mset_n (fun z => h1 (by omega))
theorem SameP.c {b : Nat} {μ : Mem} {f : Nat → Int32} : SameP b μ (mrow μ 6 f) := fun j _ h2 => mrow_n h2
theorem SameQ.m {ν : Mem} {k : Nat} {v : Int32} (h : k < 59) : SameQ ν (mset ν 1 k v) := ⟨fun j h1 _ _ => mset_n h1, fun q hq => mset_sn (by omega)⟩
/-- the two towns are one, now as then -/
def Ru (t : TB) (n : Nat) (b : Nat) (a : AT) (μ ν : Mem) : Prop := 21 ≤ b ∧ tX a = n ∧ AV a ∧ AC a μ b ∧ AM a (ν 1) ∧ TM t (ν 1) n ∧ TV t n ∧ TC t μ n
theorem TM.of {t : TB} {s s' : Nat → Int32} {n : Nat} (h : TM t s n) (e : ∀ q, 59 ≤ q → s' q = s q) : TM t s' n := fun i hi => by
  obtain ⟨g1, g2, g3, g4⟩ := h i hi
  exact ⟨by rw [e _ (by omega)]; exact g1, by rw [e _ (by omega)]; exact g2, by rw [e _ (by omega)]; exact g3, fun j hj => ⟨by rw [e _ (by omega)]; exact (g4 j hj).1, by rw [e _ (by omega)]; exact (g4 j hj).2⟩⟩
theorem Ru.step {t : TB} {n b : Nat} {a a' : AT} {μ ν μ' ν' : Mem} (h : Ru t n b a μ ν) (hV : AV a') (hC : AC a' μ' b) (hM : AM a' (ν' 1)) (hx : tX a' = tX a) (hc : SameP b μ μ') (hm : SameQ ν ν') : Ru t n b a' μ' ν' := by
  obtain ⟨h1, h2, h3, h4, h5, h6, h7, h8⟩ := h
  have x14 := (tX_eq h3).2
  exact ⟨h1, hx.trans h2, hV, hC, hM, h6.of hm.2, h7, h8.of (by omega) (fun i i1 i2 i3 => hc i (by omega) i3)⟩
/-- what a year leaves -/
def Kp (a a' : AT) : Prop := tN a' = tN a ∧ tX a' = tX a ∧ tS a' 12 = tS a 12
theorem Kp.rf (a : AT) : Kp a a := ⟨rfl, rfl, rfl⟩
theorem Kp.tr {x y z : AT} (h : Kp x y) (h2 : Kp y z) : Kp x z := ⟨h2.1.trans h.1, h2.2.1.trans h.2.1, h2.2.2.trans h.2.2⟩
/-- from one to one, and what lies between -/
def Go (t : TB) (n b : Nat) (a : AT) (μ ν : Mem) (a' : AT) (μ' ν' : Mem) : Prop := Ru t n b a' μ' ν' ∧ Kp a a' ∧ SameP b μ μ' ∧ SameQ ν ν'
theorem Go.rf {t : TB} {n b : Nat} {a : AT} {μ ν : Mem} (h : Ru t n b a μ ν) : Go t n b a μ ν a μ ν := ⟨h, Kp.rf a, SameP.rf b μ, SameQ.rf ν⟩
theorem Go.tr {t : TB} {n b : Nat} {a a' a'' : AT} {μ ν μ' ν' μ'' ν'' : Mem} (h : Go t n b a μ ν a' μ' ν') (h2 : Go t n b a' μ' ν' a'' μ'' ν'') : Go t n b a μ ν a'' μ'' ν'' := ⟨h2.1, h.2.1.tr h2.2.1, h.2.2.1.tr h2.2.2.1, h.2.2.2.tr h2.2.2.2⟩
theorem Ru.go {t : TB} {n b : Nat} {a a' : AT} {μ ν μ' ν' : Mem} (h : Ru t n b a μ ν) (hV : AV a') (hC : AC a' μ' b) (hM : AM a' (ν' 1)) (hk : Kp a a') (hc : SameP b μ μ') (hm : SameQ ν ν') : Go t n b a μ ν a' μ' ν' := ⟨h.step hV hC hM hk.2.1 hc hm, hk, hc, hm⟩
theorem kpS {a : AT} {i : Nat} {v : Int32} (h : i ≠ 14) (h2 : i ≠ 12) : Kp a (setS a i v) := by
  refine ⟨rfl, ?_, ?_⟩
  · unfold tX
    show (upd (tS a) i v 14).toNatClampNeg = _
    rw [pk_un (Ne.symm h)]
  · show upd (tS a) i v 12 = _
    rw [pk_un (Ne.symm h2)]
theorem kpU {a : AT} {k : Nat} {v : Int32} : Kp a (setU a k v) := ⟨rfl, rfl, rfl⟩
theorem kpM {a : AT} {m : Nat} : Kp a (setM a m) := ⟨rfl, rfl, rfl⟩
theorem AV_S' {a : AT} (hV : AV a) {i : Nat} {v : Int32} (h : 10 ≤ i ∧ i ≤ 13) : AV (setS a i v) := AV_S hV (fun z => by omega) (fun z => by omega) (fun z => by omega) (fun z => by omega)
section RP
variable {t : TB} {n b : Nat} {a : AT} {μ ν : Mem}
theorem go_S (h : Ru t n b a μ ν) {i : Nat} {v : Int32} (h1 : 10 ≤ i ∧ i ≤ 13) (h2 : i ≠ 12) : Go t n b a μ ν (setS a i v) (mset μ b i v) (mset ν 1 (sIx2 i) v) := by
  have ⟨_, _, h3, h4, h5, _, _, _⟩ := h
  have s := sIx2_b i
  exact h.go (AV_S' h3 h1) (AC_S h4 (by omega)) (by rw [mset_s]; exact AM_S h5 (by omega) (by omega)) (kpS (by omega) h2) (SameP.m (by omega)) (SameQ.m (by omega))
def puU (u w : Int32) : Int32 := if (-9999) < u - w then u - w else (-9999)
theorem puU_b {u : Int32} (hu : -9999 ≤ u.toInt ∧ u.toInt ≤ 9999) {w : Nat} (hw : w ≤ 1998) : (-9999 ≤ (puU u (nI w)).toInt ∧ (puU u (nI w)).toInt ≤ 9999) ∧ f_X8_within (u - nI w) (-9999) 9999 = some (puU u (nI w)) := by
  have ew : (nI w).toInt = (w : Int) := nI_toInt (by omega)
  have es : (u - nI w).toInt = u.toInt - w := by rw [sub_in (by omega) (by omega), ew]
  have em : (-9999 : Int32).toInt = -9999 := rfl
  have ep : (9999 : Int32).toInt = 9999 := rfl
  unfold puU f_X8_within
  by_cases h : (-9999) < u - nI w
  · have := Int32.lt_iff_toInt_lt.mp h
    rw [if_pos h, if_pos (Int32.le_iff_toInt_le.mpr (by omega)), if_pos (Int32.le_iff_toInt_le.mpr (by omega))]
    exact ⟨by omega, rfl⟩
  · rw [if_neg h]
    refine ⟨by rw [em]; omega, ?_⟩
    by_cases h2 : (-9999) ≤ u - nI w
    · have a1 := Int32.le_iff_toInt_le.mp h2
      have a2 : (u - nI w).toInt ≤ (-9999 : Int32).toInt := Int.not_lt.mp (fun z => h (Int32.lt_iff_toInt_lt.mpr z))
      rw [if_pos h2, if_pos (Int32.le_iff_toInt_le.mpr (by omega)), Int32.toInt_inj.mp (show (u - nI w).toInt = (-9999 : Int32).toInt by omega)]
    · rw [if_neg h2]
theorem pay_2 (h : Ru t n b a μ ν) {k w : Nat} (hk : k < tN a) (hw : w ≤ 1998) : ∃ a' μ' ν', f_X6_pay b (nI k) (nI w) μ = some μ' ∧ f_X8_pays (nI k) (nI w) ν = some ν' ∧ Go t n b a μ ν a' μ' ν' := by
  have ⟨_, _, h3, h4, h5, _, _, _⟩ := h
  have hn := h3.1
  obtain ⟨p1, p2⟩ := puU_b (h3.2.2.1 k hk).2.2.1 hw
  have g1 : Go t n b a μ ν (setU a k (puU (tU a k) (nI w))) (mset μ (b + 3) k (puU (tU a k) (nI w))) (mset ν 1 (12 + 5 * k) (puU (tU a k) (nI w))) := h.go (AV_U h3 p1) (AC_U h4) (by rw [mset_s]; exact AM_U h5) kpU (SameP.m (by omega)) (SameQ.m (by omega))
  have g2 := g1.tr (go_S g1.1 (i := 10) (v := tS a 10 + nI w) (by omega) (by omega))
  refine ⟨_, _, _, ?_, ?_, g2⟩
  · unfold f_X6_pay
    rw [ldM_n (by omega) (by omega), bs, nms, (h4.2.2.2 k hk).2.2.1, stM_n (by omega) (by omega), bs, nms, mset_n (by omega), h4.2.2.1 10 (by omega) (by omega)]
    rfl
  · unfold f_X8_pays
    rw [of_3 h3 h5 hk, bs, p2, bs, show (3 : Int32) = nI 3 from rfl, sets_n (by omega) (by omega), bs, show 9 + 5 * k + 3 = 12 + 5 * k by omega, mset_s, ldM_n (by omega) (by omega), bs, pk_un (by omega), h5.2.1.2.2.1, stM_n (by omega) (by omega), bs]
    rfl
theorem payDues_2 (h : Ru t n b a μ ν) (F : Mem → Option Mem) : ∃ a' μ' ν', f_X6_payDues b μ = some μ' ∧ lpF (fun v => f_X8_goesOn_L2 v.1 v.2) 4000 (0, ν) = some ν' ∧ Go t n b a μ ν a' μ' ν' := by
  have hn := h.2.2.1.1
  have hl : ∃ x y, lpF (fun v => f_X6_payDues_L2 b v.1 v.2) 4000 (0, μ) = some x ∧ lpF (fun v => f_X8_goesOn_L2 v.1 v.2) 4000 (0, ν) = some y ∧ ∃ a', Go t n b a μ ν a' x y := by
    refine lpT (fun k v w => ∃ a' μ' ν', v = (nI k, μ') ∧ w = (nI k, ν') ∧ Go t n b a μ ν a' μ' ν') (fun x y => ∃ a', Go t n b a μ ν a' x y) (tN a) (fun k v w hk hp => ?_) (by omega) (by omega) ⟨a, μ, ν, rfl, rfl, Go.rf h⟩
    obtain ⟨a', μ', ν', rfl, rfl, g⟩ := hp
    have ⟨h1, h2, h3, h4, h5, h6, h7, h8⟩ := g.1
    have en : tN a' = tN a := g.2.1.1
    obtain ⟨hs1, hs2⟩ := slk_eq h3
    by_cases he : k = tN a
    · refine Or.inl ⟨μ', ν', ?_, ?_, a', g⟩
      · show f_X6_payDues_L2 b (nI k) μ' = _
        unfold f_X6_payDues_L2
        rw [h4.1, en, he, if_pos (nI_le (Nat.le_refl _) (by omega))]
      · show f_X8_goesOn_L2 (nI k) ν' = _
        unfold f_X8_goesOn_L2
        rw [show (0 : Int32) = nI 0 from rfl, ldM_n (by omega) (by omega), bs, h5.1, en, he, if_pos (nI_le (Nat.le_refl _) (by omega))]
    · have hk2 : k < tN a' := by omega
      refine Or.inr ⟨by omega, ?_⟩
      show ∃ v' w', f_X6_payDues_L2 b (nI k) μ' = some (.inl v') ∧ f_X8_goesOn_L2 (nI k) ν' = some (.inl w') ∧ _
      unfold f_X6_payDues_L2 f_X8_goesOn_L2 f_X6_payDues_J32 f_X8_goesOn_J37
      rw [h4.1, if_neg (nI_ge hk2 (by omega)), offOf_C h3 h4 hk2, bs, h4.2.2.1 7 (by omega) (by omega), hs1, show ldM (ν' 1) 3059 0 = some (nI (tN a')) from (ldk (k := 0) (by omega)).trans (by rw [h5.1]), bs, if_neg (nI_ge hk2 (by omega)), offOf_M h3 h5 hk2, bs, show ldM (ν' 1) 3059 6 = some (nI (slk a')) from (ldk (k := 6) (by omega)).trans (by rw [h5.2.1.2.2.2.2.2.1, hs1]), bs]
      have ho := aOff_le a' k (tM a')
      by_cases hc : aOff a' k (tM a') ≤ slk a'
      · rw [if_pos (nI_le hc (by omega)), if_pos (nI_le hc (by omega)), nI_1]
        exact ⟨_, _, rfl, rfl, a', μ', ν', rfl, rfl, g⟩
      · rw [if_neg (nI_ge (by omega) (by omega)), if_neg (nI_ge (by omega) (by omega))]
        have eX : tX a' = n := h2
        obtain ⟨f, c1⟩ := owes_C (b := b) (by omega) h3 h4 (by rw [eX]; exact h7) (by rw [eX]; exact h8) hk2
        obtain ⟨ν'', c2, c3⟩ := dues_M h3 h5 (by rw [eX]; exact h7) (by rw [eX]; exact h6) hk2
        rw [c1, c2, bs2, bs2]
        have g1 : Go t n b a' μ' ν' a' (mrow μ' 6 f) ν'' := g.1.go h3 (h4.of (fun i i1 i2 => mrow_n (by omega))) (by rw [c3 1 (by omega) (by omega)]; exact h5) (Kp.rf _) SameP.c ⟨fun i i1 i2 i3 => c3 i i2 i3, fun q hq => by rw [c3 1 (by omega) (by omega)]⟩
        obtain ⟨a3, μ3, ν3, d1, d2, g3⟩ := pay_2 g1.1 hk2 (aDue_le t a' k)
        rw [d1, d2, bs, bs, nI_1]
        exact ⟨_, _, rfl, rfl, a3, μ3, ν3, rfl, rfl, (g.tr g1).tr g3⟩
  obtain ⟨x, y, e1, e2, a', g⟩ := hl
  refine ⟨a', x, y, ?_, e2, g⟩
  unfold f_X6_payDues f_X6_payDues_K2_38
  rw [e1, bs]
/-- who is worst off -/
def wst (a : AT) : Nat → Option Nat
  | 0 => none
  | k + 1 => match wst a k with
    | none => if aOff a k (tM a) ≤ 0 then none else some k
    | some i => if aOff a k (tM a) ≤ aOff a i (tM a) then some i else some k
theorem wst_lt (a : AT) : ∀ k i, wst a k = some i → i < k
  | 0, i, h => by cases h
  | k + 1, i, h => by
    rw [wst] at h
    cases hq : wst a k with
    | none =>
      rw [hq] at h
      dsimp only at h
      by_cases c : aOff a k (tM a) ≤ 0
      · rw [if_pos c] at h
        cases h
      · rw [if_neg c] at h
        rw [← Option.some.inj h]
        exact Nat.lt_succ_self k
    | some j =>
      rw [hq] at h
      dsimp only at h
      have := wst_lt a k j hq
      by_cases c : aOff a k (tM a) ≤ aOff a j (tM a)
      · rw [if_pos c] at h
        rw [← Option.some.inj h]
        omega
      · rw [if_neg c] at h
        rw [← Option.some.inj h]
        exact Nat.lt_succ_self k
def wrV (a : AT) (o : Option Nat) : Int32 := match o with
  | none => 0
  | some i => nI (aOff a i (tM a))
theorem worst_C (hV : AV a) (h : AC a μ b) : f_X6_worst b μ = some (lsX (wst a (tN a))) := by
  have hn := hV.1
  unfold f_X6_worst
  refine (bl (fun k => (lsX (wst a k), wrV a (wst a k), nI k)) (lsX (wst a (tN a))) (tN a) rfl (by omega) (fun k hk => ?_) ?_).trans rfl
  · show f_X6_worst_L6 b μ (lsX (wst a k)) (wrV a (wst a k)) (nI k) = _
    have ho := aOff_le a k (tM a)
    unfold f_X6_worst_L6 f_X6_worst_J31
    rw [h.1, if_neg (nI_ge hk (by omega)), offOf_C hV h hk, bs, bs, nI_1, wst]
    cases hq : wst a k with
    | none =>
      dsimp only
      by_cases c : aOff a k (tM a) ≤ 0
      · rw [if_pos c, if_pos (show nI (aOff a k (tM a)) ≤ wrV a none from nI_le (b := 0) c (by omega))]
      · rw [if_neg c, if_neg (show ¬ nI (aOff a k (tM a)) ≤ wrV a none from nI_ge (a := 0) (by omega) (by omega))]
        rfl
    | some j =>
      dsimp only
      have hj := aOff_le a j (tM a)
      by_cases c : aOff a k (tM a) ≤ aOff a j (tM a)
      · rw [if_pos c, if_pos (show nI (aOff a k (tM a)) ≤ wrV a (some j) from nI_le c (by omega))]
      · rw [if_neg c, if_neg (show ¬ nI (aOff a k (tM a)) ≤ wrV a (some j) from nI_ge (by omega) (by omega))]
        rfl
  · show f_X6_worst_L6 b μ (lsX (wst a (tN a))) (wrV a (wst a (tN a))) (nI (tN a)) = _
    unfold f_X6_worst_L6
    rw [h.1, if_pos (nI_le (Nat.le_refl _) (by omega))]
theorem AM_0 {ν : Mem} (h : AM a (ν 1)) : ldM (ν 1) 3059 0 = some (nI (tN a)) := (ldk (k := 0) (by omega)).trans (by rw [h.1])
theorem worst_M (hV : AV a) (h : AM a (ν 1)) : f_X8_worst ν = some (lsX (wst a (tN a))) := by
  have hn := hV.1
  unfold f_X8_worst
  refine (bl (fun k => (lsX (wst a k), nI k)) (lsX (wst a (tN a))) (tN a) rfl (by omega) (fun k hk => ?_) ?_).trans rfl
  · show f_X8_worst_L4 ν (lsX (wst a k)) (nI k) = _
    have ho := aOff_le a k (tM a)
    unfold f_X8_worst_L4 f_X8_worst_J32 f_X8_worst_J40
    rw [AM_0 h, bs, if_neg (nI_ge hk (by omega)), offOf_M hV h hk, bs, nI_1, wst]
    cases hq : wst a k with
    | none =>
      dsimp only
      rw [show lsX none = (-1 : Int32) from rfl, if_neg (show ¬ (0 : Int32) ≤ -1 by decide)]
      by_cases c : aOff a k (tM a) ≤ 0
      · rw [if_pos c, if_pos (show nI (aOff a k (tM a)) ≤ 0 from nI_le (b := 0) c (by omega))]
        rfl
      · rw [if_neg c, if_neg (show ¬ nI (aOff a k (tM a)) ≤ 0 from nI_ge (a := 0) (by omega) (by omega))]
        rfl
    | some j =>
      dsimp only
      have hj := aOff_le a j (tM a)
      have lj := wst_lt a k j hq
      rw [show lsX (some j) = nI j from rfl, if_pos (nI_pos' (by omega)), offOf_M hV h (show j < tN a by omega), bs]
      by_cases c : aOff a k (tM a) ≤ aOff a j (tM a)
      · rw [if_pos c, if_pos (nI_le c (by omega))]
        rfl
      · rw [if_neg c, if_neg (nI_ge (by omega) (by omega))]
        rfl
  · show f_X8_worst_L4 ν (lsX (wst a (tN a))) (nI (tN a)) = _
    unfold f_X8_worst_L4
    rw [AM_0 h, bs, if_pos (nI_le (Nat.le_refl _) (by omega))]
theorem draw_2 (h : Ru t n b a μ ν) : f_X6_draw b μ = some (nI (drwA a), mset μ b 13 (nx (tS a 13))) ∧ f_X8_drawn ν = some (nI (drwA a), mset ν 1 5 (nx (tS a 13))) ∧ Go t n b a μ ν (drawA a) (mset μ b 13 (nx (tS a 13))) (mset ν 1 5 (nx (tS a 13))) := by
  have ⟨_, _, h3, h4, h5, _, _, _⟩ := h
  obtain ⟨c1, c2⟩ := draw_C h4
  obtain ⟨m1, m2⟩ := draw_M h5
  exact ⟨c1, m1, h.go (AV_draw h3) c2 m2 (kpS (by omega) (by omega)) (SameP.m (by omega)) (SameQ.m (by omega))⟩
theorem looked_2 (h : Ru t n b a μ ν) : ∃ v a' μ' ν', f_X6_lookedAt b μ = some (v, μ') ∧ f_X8_lookedAt ν = some (v, ν') ∧ Go t n b a μ ν a' μ' ν' ∧ (v = -1 ∨ ∃ k, k < tN a' ∧ v = nI k) := by
  have ⟨_, _, h3, h4, h5, _, _, _⟩ := h
  have hn := h3.1
  obtain ⟨z, hz, e8⟩ := h3.2.2.2.2.2.1
  have m7 : ldM (ν 1) 3059 7 = some (nI z) := (ldk (k := 7) (by omega)).trans (by rw [h5.2.1.2.2.2.2.2.2.1, e8])
  unfold f_X6_lookedAt f_X8_lookedAt
  rw [h4.1, h4.2.2.1 8 (by omega) (by omega), e8, m7, bs, bs, AM_0 h5, bs]
  rcases (by omega : z = 0 ∨ z = 1 ∨ z = 2) with rfl | rfl | rfl
  · refine ⟨-1, a, μ, ν, ?_, rfl, Go.rf h, Or.inl rfl⟩
    by_cases h0 : nI (tN a) = 0
    · rw [if_pos h0]
    · rw [if_neg h0]
      rfl
  · rw [if_pos (show nI 1 = 1 from rfl), worst_M h3 h5, bs]
    by_cases h0 : nI (tN a) = 0
    · have e : tN a = 0 := (nI_z (by omega)).mp h0
      rw [if_pos h0, e]
      exact ⟨-1, a, μ, ν, rfl, rfl, Go.rf h, Or.inl rfl⟩
    · rw [if_neg h0, if_neg (show ¬ nI 1 = 0 by decide), if_pos (show nI 1 = 1 from rfl), worst_C h3 h4, bs]
      refine ⟨_, a, μ, ν, rfl, rfl, Go.rf h, ?_⟩
      cases hq : wst a (tN a) with
      | none => exact Or.inl rfl
      | some i => exact Or.inr ⟨i, wst_lt a _ i hq, rfl⟩
  · rw [if_neg (show ¬ nI 2 = 1 by decide), if_pos (show nI 2 = 2 from rfl)]
    by_cases h0 : nI (tN a) = 0
    · rw [if_pos h0, if_pos (show nI (tN a) ≤ 0 by rw [h0]; decide)]
      exact ⟨-1, a, μ, ν, rfl, rfl, Go.rf h, Or.inl rfl⟩
    · have e : 0 < tN a := Nat.pos_of_ne_zero (fun z => h0 (by rw [z]; rfl))
      obtain ⟨d1, d2, g⟩ := draw_2 h
      have dl := drw_lt (tS a 13)
      have eN : tN (drawA a) = tN a := rfl
      rw [if_neg h0, if_neg (nI_nle e (by omega)), if_neg (show ¬ nI 2 = 0 by decide), if_neg (show ¬ nI 2 = 1 by decide), d1, d2, bs2, bs2, AM_0 g.1.2.2.2.2.1, bs, g.1.2.2.2.1.1, eN, rm_n (by unfold drwA; omega) e (by omega), bs, bs]
      exact ⟨_, drawA a, _, _, rfl, rfl, g, Or.inr ⟨_, Nat.mod_lt _ e, rfl⟩⟩
end RP
