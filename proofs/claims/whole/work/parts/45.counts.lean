/-! WHICH TEXT COUNTS -/
/-- the town now, at b in the class, with its texts -/
def Rt (t : TB) (a : AT) (μ : Mem) (b : Nat) (ν : Mem) : Prop := AV a ∧ YV a ∧ AC a μ b ∧ AM a (ν 1) ∧ TM t (ν 1) (tX a) ∧ TV t (tX a) ∧ TC t μ (tX a)
def SameN (ν ν' : Mem) : Prop := ∀ i, i ≠ 1 → i ≠ 3 → i ≠ 12 → i ≠ 14 → i ≠ 15 → i ≠ 16 → i ≠ 18 → ν' i = ν i
theorem Rel.rt {μ ν : Mem} (h : Rel μ ν) : ∃ (t : TB) (a : AT), Rt t a μ 21 ν ∧ ∀ (a' : AT) (μ' ν' : Mem), Rt t a' μ' 21 ν' → tX a' = tX a → SameT μ μ' → SameN ν ν' → Rel μ' ν' := by
  obtain ⟨⟨t, a, ⟨e1, e2, e3, e4, e5⟩, e6, e7, e8⟩, h2, h3, h4, h5⟩ := h
  refine ⟨t, a, ⟨e1, e2, e3, e4, e5, e6, e7⟩, fun a' μ' ν' hr ex hc hm => ?_⟩
  obtain ⟨v1, v2, c1, m1, q1, q2, q3⟩ := hr
  have c : ∀ i, ¬ (21 ≤ i ∧ i ≤ 25) → i ≠ 6 → ¬ (31 ≤ i ∧ i ≤ 37) → i ≠ 40 → μ' i = μ i := hc
  have m : ∀ i, i ≠ 1 → i ≠ 3 → i ≠ 12 → i ≠ 14 → i ≠ 15 → i ≠ 16 → i ≠ 18 → ν' i = ν i := hm
  have m0 := m 0 (by omega) (by omega) (by omega) (by omega) (by omega) (by omega) (by omega)
  have c0 := c 0 (by omega) (by omega) (by omega) (by omega)
  refine ⟨⟨t, a', ⟨v1, v2, c1, m1, q1⟩, q2, q3, ?_⟩, ?_, ?_, ?_, ?_⟩
  · rw [ex, c0, m0, m 2 (by omega) (by omega) (by omega) (by omega) (by omega) (by omega) (by omega)]
    rcases e8 with e8 | ⟨k1, k2, i, k3, k4⟩
    · exact Or.inl e8
    · exact Or.inr ⟨k1, k2, i, k3.of (fun j a1 a2 => c j (by omega) (by omega) (by omega) (by omega)), k4⟩
  · exact h2.of (by rw [c 38 (by omega) (by omega) (by omega) (by omega)]) (c 39 (by omega) (by omega) (by omega) (by omega)) (by rw [m0]) (m 13 (by omega) (by omega) (by omega) (by omega) (by omega) (by omega) (by omega))
  · exact h3.of (fun i a1 a2 => c i (by omega) (by omega) (by omega) (by omega)) (m 4 (by omega) (by omega) (by omega) (by omega) (by omega) (by omega) (by omega)) (m 5 (by omega) (by omega) (by omega) (by omega) (by omega) (by omega) (by omega)) (m 6 (by omega) (by omega) (by omega) (by omega) (by omega) (by omega) (by omega))
  · exact h4.of (fun i a1 a2 => c i (by omega) (by omega) (by omega) (by omega)) (fun i a1 a2 => m i (by omega) (by omega) (by omega) (by omega) (by omega) (by omega) (by omega))
  · exact h5.of (by rw [c0]) (c 66 (by omega) (by omega) (by omega) (by omega)) (by rw [m0]) (m 17 (by omega) (by omega) (by omega) (by omega) (by omega) (by omega) (by omega))
def lst (t : TB) (key : Nat) : Nat → Option Nat
  | 0 => none
  | n + 1 => if bK t n = key then some n else lst t key n
theorem lst_lt (t : TB) (key : Nat) : ∀ n i, lst t key n = some i → i < n ∧ bK t i = key
  | 0, i, h => by cases h
  | n + 1, i, h => by
    by_cases e : bK t n = key
    · rw [lst, if_pos e] at h
      rw [← Option.some.inj h]
      exact ⟨Nat.lt_succ_self n, e⟩
    · rw [lst, if_neg e] at h
      obtain ⟨h1, h2⟩ := lst_lt t key n i h
      exact ⟨Nat.lt_succ_of_lt h1, h2⟩
def lsX (o : Option Nat) : Int32 := match o with
  | none => -1
  | some p => nI p
theorem add_m1 (x : Int32) : x + (-1) = x - 1 := by rw [Int32.sub_eq_add_neg]
theorem cntC {t : TB} {μ : Mem} (key : Nat) (hk : key ≤ 2) : ∀ n fuel, n ≤ 14 → n < fuel → TV t n → TC t μ n → lpF (fun v => f_X0_counts_L9 (nI key) μ v) fuel (nI n - 1) = some (match lst t key n with | none => .inr () | some i => .inl (nI i))
  | 0, 0, _, h, _, _ => by omega
  | 0, fuel + 1, _, _, _, _ => by
    have e : f_X0_counts_L9 (nI key) μ (nI 0 - 1) = some (.inr (.inr ())) := by
      unfold f_X0_counts_L9
      exact if_pos (by decide)
    rw [lpF, e]
    rfl
  | n + 1, 0, _, h, _, _ => by omega
  | n + 1, fuel + 1, h1, h2, hv, hc => by
    have b2 := (hv n (by omega)).1
    have e : f_X0_counts_L9 (nI key) μ (nI (n + 1) - 1) = if bK t n = key then some (.inr (.inl (nI n))) else some (.inl (nI n - 1)) := by
      unfold f_X0_counts_L9
      rw [nI_pred, if_neg (nI_pos (by omega)), ldM_n (by omega) (by omega), bs, (hc n (by omega)).1, add_m1]
      by_cases k : bK t n = key
      · rw [if_pos k, if_pos (by rw [k])]
      · rw [if_neg k, if_neg (fun z => k ((@nI_eq _ _ (by omega) (by omega)).mp z))]
    have el : lst t key (n + 1) = if bK t n = key then some n else lst t key n := rfl
    rw [lpF, e, el]
    by_cases k : bK t n = key
    · rw [if_pos k, if_pos k]
    · rw [if_neg k, if_neg k]
      exact cntC key hk n fuel (by omega) (by omega) (fun i hi => hv i (by omega)) (fun i hi => hc i (by omega))
theorem counts_C {t : TB} {μ : Mem} {n key : Nat} (hn : n ≤ 14) (hk : key ≤ 2) (hv : TV t n) (h : TC t μ n) : f_X0_counts (nI key) (nI n) μ = some (lsX (lst t key n)) := by
  unfold f_X0_counts
  rw [if_neg (show ¬ (14 : Int32) < nI n from nI_nlt (a := 14) hn (by omega)), nms, cntC key hk n 4000 hn (by omega) hv h, bs]
  cases lst t key n <;> rfl
theorem textAt_n (ν : Mem) (i : Nat) : f_X8_textAt (nI i) ν = some (nI (59 + 200 * i)) := by
  unfold f_X8_textAt
  rw [show (59 : Int32) + 200 * nI i = nI (59 + 200 * i) from by show nI 59 + nI 200 * nI i = _; rw [pk_mul, nI_add]]
theorem AM_1 {a : AT} {ν : Mem} (hV : AV a) (h : AM a (ν 1)) : ldM (ν 1) 3059 1 = some (nI (tX a)) := by
  rw [show (1 : Int32) = nI 1 from rfl, ldM_n (by omega) (by omega), h.2.1.1, (tX_eq hV).1]
theorem counts_M {t : TB} {a : AT} {ν : Mem} {key : Nat} (hV : AV a) (hk : key ≤ 2) (h : AM a (ν 1)) (hv : TV t (tX a)) (hm : TM t (ν 1) (tX a)) : f_X8_counts (nI key) ν = some (lsX (lst t key (tX a))) := by
  have x14 := (tX_eq hV).2
  unfold f_X8_counts
  refine (bl (fun k => (lsX (lst t key k), nI k)) (lsX (lst t key (tX a))) (tX a) rfl (by omega) (fun k hk2 => ?_) ?_).trans rfl
  · show f_X8_counts_L4 (nI key) ν (lsX (lst t key k)) (nI k) = _
    have b2 := (hv k hk2).1
    have el : lst t key (k + 1) = if bK t k = key then some k else lst t key k := rfl
    unfold f_X8_counts_L4 f_X8_counts_J33
    rw [AM_1 hV h, bs, if_neg (nI_ge hk2 (by omega)), textAt_n, bs, ldM_n (by omega) (by omega), bs, (hm k hk2).1, nI_1, el]
    by_cases e : bK t k = key
    · rw [if_pos e, if_pos (by rw [e])]
      rfl
    · rw [if_neg e, if_neg (fun z => e ((@nI_eq _ _ (by omega) (by omega)).mp z))]
  · show f_X8_counts_L4 (nI key) ν (lsX (lst t key (tX a))) (nI (tX a)) = _
    unfold f_X8_counts_L4
    rw [AM_1 hV h, bs, if_pos (nI_le (Nat.le_refl _) (by omega))]
theorem lsX_0 {o : Option Nat} (h : ∀ i, o = some i → i < 14) : (o = none ∧ lsX o = -1) ∨ (∃ i, o = some i ∧ i < 14 ∧ lsX o = nI i) := by
  cases o with
  | none => exact Or.inl ⟨rfl, rfl⟩
  | some i => exact Or.inr ⟨i, rfl, h i rfl, rfl⟩
theorem lst_14 {t : TB} {a : AT} {key : Nat} (hV : AV a) : ∀ i, lst t key (tX a) = some i → i < 14 := fun i h => by
  have := (lst_lt t key _ i h).1
  have := (tX_eq hV).2
  omega
theorem b14 {a : AT} {μ : Mem} {b : Nat} (hV : AV a) (h : AC a μ b) : μ b 14 = nI (tX a) := by rw [h.2.2.1 14 (by omega) (by omega), (tX_eq hV).1]
theorem Step_26 : Step Rel C7_26 C8_26 := by
  intro a μ ν hR
  obtain ⟨t, w, ⟨hV, hY, hC, hM, hTM, hTV, hTC⟩, -⟩ := hR.rt
  have x14 := (tX_eq hV).2
  unfold C7_26 C8_26 ro f_X7_why f_X8_why
  simp only [o0_2, n0_2, bs, i01, i10]
  by_cases h1 : 0 ≤ (a 1).toInt ∧ (a 1).toInt ≤ 2
  · obtain ⟨k, hk, e⟩ := upto (n := 2) h1 rfl
    simp only [if_pos h1]
    rw [e, b14 hV hC, counts_C x14 hk hTV hTC, counts_M hV hk hM hTV hTM]
    simp only [bs]
    rcases lsX_0 (lst_14 (t := t) (key := k) hV) with ⟨-, e2⟩ | ⟨i, -, hi, e2⟩
    · rw [e2]
      exact ⟨-1000000005, μ, ν, rfl, rfl, hR⟩
    · rw [e2, if_pos (nI_pos' (by omega)), orNone_n (by omega)]
      exact ⟨nI i, μ, ν, rfl, rfl, hR⟩
  · simp only [if_neg h1]
    exact ⟨-1000000001, μ, ν, rfl, rfl, hR⟩
theorem Step_25 : Step Rel C7_25 C8_25 := by
  intro a μ ν hR
  obtain ⟨t, w, ⟨hV, hY, hC, hM, hTM, hTV, hTC⟩, -⟩ := hR.rt
  have x14 := (tX_eq hV).2
  unfold C7_25 C8_25 ro f_X7_textTold f_X8_textTold f_X8_isText
  rw [b14 hV hC, AM_1 hV hM]
  simp only [bs]
  rw [out_L (l := 0) (h := (tX w : Int) - 1) _ rfl (n1_toInt (by omega)), inN (a 1) (show tX w ≤ 1000 by omega)]
  simp only [bs, i01, i10, zM_if (Or.inr rfl) (Or.inl rfl), n0_1]
  by_cases h1 : 0 ≤ (a 1).toInt ∧ (a 1).toInt ≤ (tX w : Int) - 1
  · obtain ⟨k, hk, e⟩ := isK_n (n := tX w) h1
    simp only [if_pos h1]
    rw [e, textAt_n]
    simp only [bs]
    rw [ldM_n (by omega) (by omega), ldM_n (by omega) (by omega), bs, bs, (hTC k hk).1, (hTC k hk).2.1]
    by_cases h2 : 0 ≤ (a 2).toInt ∧ (a 2).toInt ≤ 1
    · obtain ⟨c, hc⟩ := is01 h2
      rw [if_pos h2, hc]
      cases c
      · rw [if_pos (show nI false.toNat = 0 from rfl), show nI (59 + 200 * k) + nI false.toNat = nI (59 + 200 * k) from by rw [nI_add]; rfl, ldM_n (by omega) (by omega), bs, (hTM k hk).1]
        exact ⟨_, μ, ν, rfl, rfl, hR⟩
      · rw [if_neg (show ¬ nI true.toNat = 0 by decide), if_pos (show nI true.toNat = 1 from rfl), show nI (59 + 200 * k) + nI true.toNat = nI (60 + 200 * k) from by rw [nI_add]; congr 1; rw [show true.toNat = 1 from rfl]; omega, ldM_n (by omega) (by omega), bs, (hTM k hk).2.1]
        exact ⟨_, μ, ν, rfl, rfl, hR⟩
    · rw [if_neg h2, if_neg (fun z => h2 (by rw [z]; decide)), if_neg (fun z => h2 (by rw [z]; decide))]
      exact ⟨-1000000001, μ, ν, rfl, rfl, hR⟩
  · simp only [if_neg h1]
    exact ⟨-1000000001, μ, ν, rfl, rfl, hR⟩
