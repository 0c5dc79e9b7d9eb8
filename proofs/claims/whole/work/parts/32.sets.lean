/-! CHANGES of a town -/
theorem lpE {V X : Type} {body : V → Option (V ⊕ X)} (P : Nat → V → Prop) (Q : X → Prop) (N : Nat) {fuel : Nat} {v : V} (hf : N < fuel) (h0 : P 0 v) (hs : ∀ k v, k < N → P k v → ∃ v', body v = some (.inl v') ∧ P (k + 1) v') (he : ∀ v, P N v → ∃ x, body v = some (.inr x) ∧ Q x) : ∃ x, lpF body fuel v = some x ∧ Q x := by
  have g : ∀ m k fuel v, k + m = N → m < fuel → P k v → ∃ x, lpF body fuel v = some x ∧ Q x := by
    intro m
    induction m with
    | zero =>
      intro k fuel v hk hf hp
      cases fuel with
      | zero => omega
      | succ fuel =>
        rw [Nat.add_zero] at hk
        rw [hk] at hp
        obtain ⟨x, e, hq⟩ := he v hp
        refine ⟨x, ?_, hq⟩
        rw [lpF, e]
    | succ m ih =>
      intro k fuel v hk hf hp
      cases fuel with
      | zero => omega
      | succ fuel =>
        obtain ⟨v', e, hp'⟩ := hs k v (by omega) hp
        obtain ⟨x, e2, hq⟩ := ih (k + 1) fuel v' (by omega) (by omega) hp'
        refine ⟨x, ?_, hq⟩
        rw [lpF, e]
        exact e2
  exact g N 0 fuel v (by omega) hf h0
/-- besides the town now, scratch cells alone have changed -/
def SameT (μ μ' : Mem) : Prop := ∀ i, ¬ (21 ≤ i ∧ i ≤ 25) → i ≠ 6 → ¬ (31 ≤ i ∧ i ≤ 37) → i ≠ 40 → μ' i = μ i
def SameS (ν ν' : Mem) : Prop := (∀ i, i ≠ 1 → i ≠ 3 → i ≠ 12 → i ≠ 14 → i ≠ 15 → i ≠ 16 → i ≠ 18 → ν' i = ν i) ∧ ∀ q, 59 ≤ q → ν' 1 q = ν 1 q
theorem Rel.tw2 {μ ν : Mem} (h : Rel μ ν) : ∃ a, AV a ∧ YV a ∧ AC a μ 21 ∧ AM a (ν 1) ∧ ∀ (a' : AT) (μ' ν' : Mem), AV a' → YV a' → AC a' μ' 21 → AM a' (ν' 1) → tS a' 14 = tS a 14 → SameT μ μ' → SameS ν ν' → Rel μ' ν' := by
  obtain ⟨⟨t, a, ⟨e1, e2, e3, e4, e5⟩, e6, e7, e8⟩, h2, h3, h4, h5⟩ := h
  refine ⟨a, e1, e2, e3, e4, fun a' μ' ν' v1 v2 c1 m1 s14 hc hm => ?_⟩
  have c : ∀ i, ¬ (21 ≤ i ∧ i ≤ 25) → i ≠ 6 → ¬ (31 ≤ i ∧ i ≤ 37) → i ≠ 40 → μ' i = μ i := hc
  have m : ∀ i, i ≠ 1 → i ≠ 3 → i ≠ 12 → i ≠ 14 → i ≠ 15 → i ≠ 16 → i ≠ 18 → ν' i = ν i := hm.1
  have m0 := m 0 (by omega) (by omega) (by omega) (by omega) (by omega) (by omega) (by omega)
  have c0 := c 0 (by omega) (by omega) (by omega) (by omega)
  have ex : tX a' = tX a := by
    unfold tX
    rw [s14]
  have x14 := (tX_eq e1).2
  refine ⟨⟨t, a', ⟨v1, v2, c1, m1, ?_⟩, by rw [ex]; exact e6, ?_, ?_⟩, ?_, ?_, ?_, ?_⟩
  · rw [ex]
    intro i hi
    obtain ⟨g1, g2, g3, g4⟩ := e5 i hi
    refine ⟨by rw [hm.2 _ (by omega)]; exact g1, by rw [hm.2 _ (by omega)]; exact g2, by rw [hm.2 _ (by omega)]; exact g3, fun j hj => ?_⟩
    obtain ⟨k1, k2⟩ := g4 j hj
    exact ⟨by rw [hm.2 _ (by omega)]; exact k1, by rw [hm.2 _ (by omega)]; exact k2⟩
  · rw [ex]
    exact e7.of x14 (fun i a1 a2 a3 => c i (by omega) a3 (by omega) (by omega))
  · rw [ex, c0, m0, m 2 (by omega) (by omega) (by omega) (by omega) (by omega) (by omega) (by omega)]
    rcases e8 with e8 | ⟨k1, k2, i, k3, k4⟩
    · exact Or.inl e8
    · exact Or.inr ⟨k1, k2, i, k3.of (fun j a1 a2 => c j (by omega) (by omega) (by omega) (by omega)), k4⟩
  · exact h2.of (by rw [c 38 (by omega) (by omega) (by omega) (by omega)]) (c 39 (by omega) (by omega) (by omega) (by omega)) (by rw [m0]) (m 13 (by omega) (by omega) (by omega) (by omega) (by omega) (by omega) (by omega))
  · exact h3.of (fun i a1 a2 => c i (by omega) (by omega) (by omega) (by omega)) (m 4 (by omega) (by omega) (by omega) (by omega) (by omega) (by omega) (by omega)) (m 5 (by omega) (by omega) (by omega) (by omega) (by omega) (by omega) (by omega)) (m 6 (by omega) (by omega) (by omega) (by omega) (by omega) (by omega) (by omega))
  · exact h4.of (fun i a1 a2 => c i (by omega) (by omega) (by omega) (by omega)) (fun i a1 a2 => m i (by omega) (by omega) (by omega) (by omega) (by omega) (by omega) (by omega))
  · exact h5.of (by rw [c0]) (c 66 (by omega) (by omega) (by omega) (by omega)) (by rw [m0]) (m 17 (by omega) (by omega) (by omega) (by omega) (by omega) (by omega) (by omega))
theorem SameT.rf (μ : Mem) : SameT μ μ := fun _ _ _ _ _ => rfl
theorem SameS.rf (μ : Mem) : SameS μ μ := ⟨fun _ _ _ _ _ _ _ _ => rfl, fun _ _ => rfl⟩
theorem SameT.m {μ : Mem} {i k : Nat} {v : Int32} (h : 21 ≤ i ∧ i ≤ 25) : SameT μ (mset μ i k v) := fun j h1 _ _ _ => mset_n (fun z => h1 (by omega))
theorem SameS.m {ν : Mem} {k : Nat} {v : Int32} (h : k < 59) : SameS ν (mset ν 1 k v) := ⟨fun j h1 _ _ _ _ _ _ => mset_n h1, fun q hq => mset_sn (by omega)⟩
theorem SameT.tr {a b c : Mem} (h : SameT a b) (h2 : SameT b c) : SameT a c := fun i h3 h4 h5 h6 => (h2 i h3 h4 h5 h6).trans (h i h3 h4 h5 h6)
theorem SameS.tr {a b c : Mem} (h : SameS a b) (h2 : SameS b c) : SameS a c := ⟨fun i h3 h4 h5 h6 h7 h8 h9 => (h2.1 i h3 h4 h5 h6 h7 h8 h9).trans (h.1 i h3 h4 h5 h6 h7 h8 h9), fun q hq => (h2.2 q hq).trans (h.2 q hq)⟩
def setK (a : AT) (k : Nat) (v : Int32) : AT := (tN a, upd (tK a) k v, tP a, tU a, tF a, tM a, tS a)
def setP (a : AT) (k : Nat) (v : Int32) : AT := (tN a, tK a, upd (tP a) k v, tU a, tF a, tM a, tS a)
def setU (a : AT) (k : Nat) (v : Int32) : AT := (tN a, tK a, tP a, upd (tU a) k v, tF a, tM a, tS a)
def setM (a : AT) (m : Nat) : AT := (tN a, tK a, tP a, tU a, tF a, m, tS a)
def setS (a : AT) (i : Nat) (v : Int32) : AT := (tN a, tK a, tP a, tU a, tF a, tM a, upd (tS a) i v)
section RH
variable {a : AT} {μ ν : Mem} {s : Nat → Int32} {b : Nat}
theorem AV_K (hV : AV a) {k : Nat} {v : Int32} (hv : ∃ z, z ≤ 5 ∧ v = nI z) : AV (setK a k v) := by
  obtain ⟨h1, h2, h3, h4⟩ := hV
  refine ⟨h1, h2, fun i hi => ⟨?_, (h3 i hi).2⟩, h4⟩
  show ∃ z, z ≤ 5 ∧ upd (tK a) k v i = nI z
  by_cases e : i = k
  · rw [e, pk_us]; exact hv
  · rw [pk_un e]; exact (h3 i hi).1
theorem AV_P (hV : AV a) {k : Nat} {v : Int32} (hv : ∃ z, z ≤ 99 ∧ v = nI z) : AV (setP a k v) := by
  obtain ⟨h1, h2, h3, h4⟩ := hV
  refine ⟨h1, h2, fun i hi => ⟨(h3 i hi).1, ?_, (h3 i hi).2.2⟩, h4⟩
  show ∃ z, z ≤ 99 ∧ upd (tP a) k v i = nI z
  by_cases e : i = k
  · rw [e, pk_us]; exact hv
  · rw [pk_un e]; exact (h3 i hi).2.1
theorem AV_U (hV : AV a) {k : Nat} {v : Int32} (hv : -9999 ≤ v.toInt ∧ v.toInt ≤ 9999) : AV (setU a k v) := by
  obtain ⟨h1, h2, h3, h4⟩ := hV
  refine ⟨h1, h2, fun i hi => ⟨(h3 i hi).1, (h3 i hi).2.1, ?_, (h3 i hi).2.2.2⟩, h4⟩
  show -9999 ≤ (upd (tU a) k v i).toInt ∧ (upd (tU a) k v i).toInt ≤ 9999
  by_cases e : i = k
  · rw [e, pk_us]; exact hv
  · rw [pk_un e]; exact (h3 i hi).2.2.1
theorem AV_M (hV : AV a) {m : Nat} (hm : m < 2 ^ tN a) : AV (setM a m) := ⟨hV.1, hm, hV.2.2⟩
theorem AV_S (hV : AV a) {i : Nat} {v : Int32} (h7 : i = 7 → ∃ z, z ≤ 9 ∧ v = nI z) (h8 : i = 8 → ∃ z, z ≤ 2 ∧ v = nI z) (h9 : i = 9 → ∃ z, z ≤ 100 ∧ v = nI z) (h14 : i = 14 → ∃ z, z ≤ 14 ∧ v = nI z) : AV (setS a i v) := by
  obtain ⟨h1, h2, h3, h4, g7, g8, g9, g14⟩ := hV
  refine ⟨h1, h2, h3, h4, ?_, ?_, ?_, ?_⟩
  · show ∃ z, z ≤ 9 ∧ upd (tS a) i v 7 = nI z
    by_cases e : 7 = i
    · rw [← e, pk_us]; exact h7 e.symm
    · rw [pk_un e]; exact g7
  · show ∃ z, z ≤ 2 ∧ upd (tS a) i v 8 = nI z
    by_cases e : 8 = i
    · rw [← e, pk_us]; exact h8 e.symm
    · rw [pk_un e]; exact g8
  · show ∃ z, z ≤ 100 ∧ upd (tS a) i v 9 = nI z
    by_cases e : 9 = i
    · rw [← e, pk_us]; exact h9 e.symm
    · rw [pk_un e]; exact g9
  · show ∃ z, z ≤ 14 ∧ upd (tS a) i v 14 = nI z
    by_cases e : 14 = i
    · rw [← e, pk_us]; exact h14 e.symm
    · rw [pk_un e]; exact g14
theorem AC_K (h : AC a μ b) {k : Nat} {v : Int32} : AC (setK a k v) (mset μ (b + 1) k v) b := by
  unfold AC
  rw [mset_n (j := b) (by omega), mset_n (j := b + 2) (by omega), mset_n (j := b + 3) (by omega), mset_n (j := b + 4) (by omega)]
  refine ⟨h.1, h.2.1, h.2.2.1, fun i hi => ⟨?_, (h.2.2.2 i hi).2⟩⟩
  show mset μ (b + 1) k v (b + 1) i = upd (tK a) k v i
  rw [mset_s]
  by_cases e : i = k
  · rw [e, pk_us, pk_us]
  · rw [pk_un e, pk_un e]; exact (h.2.2.2 i hi).1
theorem AC_P (h : AC a μ b) {k : Nat} {v : Int32} : AC (setP a k v) (mset μ (b + 2) k v) b := by
  unfold AC
  rw [mset_n (j := b) (by omega), mset_n (j := b + 1) (by omega), mset_n (j := b + 3) (by omega), mset_n (j := b + 4) (by omega)]
  refine ⟨h.1, h.2.1, h.2.2.1, fun i hi => ⟨(h.2.2.2 i hi).1, ?_, (h.2.2.2 i hi).2.2⟩⟩
  show mset μ (b + 2) k v (b + 2) i = upd (tP a) k v i
  rw [mset_s]
  by_cases e : i = k
  · rw [e, pk_us, pk_us]
  · rw [pk_un e, pk_un e]; exact (h.2.2.2 i hi).2.1
theorem AC_U (h : AC a μ b) {k : Nat} {v : Int32} : AC (setU a k v) (mset μ (b + 3) k v) b := by
  unfold AC
  rw [mset_n (j := b) (by omega), mset_n (j := b + 1) (by omega), mset_n (j := b + 2) (by omega), mset_n (j := b + 4) (by omega)]
  refine ⟨h.1, h.2.1, h.2.2.1, fun i hi => ⟨(h.2.2.2 i hi).1, (h.2.2.2 i hi).2.1, ?_, (h.2.2.2 i hi).2.2.2⟩⟩
  show mset μ (b + 3) k v (b + 3) i = upd (tU a) k v i
  rw [mset_s]
  by_cases e : i = k
  · rw [e, pk_us, pk_us]
  · rw [pk_un e, pk_un e]; exact (h.2.2.2 i hi).2.2.1
theorem AC_o (h : AC a μ b) {k : Nat} {v : Int32} : (∀ j, j ≠ k → mset μ b k v b j = μ b j) ∧ (∀ j, j < tN a → mset μ b k v (b + 1) j = tK a j ∧ mset μ b k v (b + 2) j = tP a j ∧ mset μ b k v (b + 3) j = tU a j ∧ mset μ b k v (b + 4) j = nI (tF a j)) := by
  refine ⟨fun j hj => mset_sn hj, fun j hj => ?_⟩
  rw [mset_n (j := b + 1) (by omega), mset_n (j := b + 2) (by omega), mset_n (j := b + 3) (by omega), mset_n (j := b + 4) (by omega)]
  exact h.2.2.2 j hj
theorem AC_M (h : AC a μ b) {m : Nat} : AC (setM a m) (mset μ b 6 (nI m)) b := by
  obtain ⟨g1, g2⟩ := AC_o h (k := 6) (v := nI m)
  exact ⟨by rw [g1 5 (by omega)]; exact h.1, mset_ss, fun j h1 h2 => by rw [g1 j (by omega)]; exact h.2.2.1 j h1 h2, g2⟩
theorem AC_S (h : AC a μ b) {i : Nat} {v : Int32} (h7 : 7 ≤ i) : AC (setS a i v) (mset μ b i v) b := by
  obtain ⟨g1, g2⟩ := AC_o h (k := i) (v := v)
  refine ⟨by rw [g1 5 (by omega)]; exact h.1, by rw [g1 6 (by omega)]; exact h.2.1, fun j h1 h2 => ?_, g2⟩
  show mset μ b i v b j = upd (tS a) i v j
  by_cases e : j = i
  · rw [e, pk_us, mset_ss]
  · rw [g1 j e, pk_un e]; exact h.2.2.1 j h1 h2
theorem AM_p (h : AM a s) {p : Nat} {v : Int32} (hp : 9 ≤ p) : upd s p v 0 = nI (tN a) ∧ (upd s p v 1 = tS a 14 ∧ upd s p v 2 = tS a 12 ∧ upd s p v 3 = tS a 10 ∧ upd s p v 4 = tS a 11 ∧ upd s p v 5 = tS a 13 ∧ upd s p v 6 = tS a 7 ∧ upd s p v 7 = tS a 8 ∧ upd s p v 8 = tS a 9) := by
  rw [pk_un (j := 0) (by omega), pk_un (j := 1) (by omega), pk_un (j := 2) (by omega), pk_un (j := 3) (by omega), pk_un (j := 4) (by omega), pk_un (j := 5) (by omega), pk_un (j := 6) (by omega), pk_un (j := 7) (by omega), pk_un (j := 8) (by omega)]
  exact ⟨h.1, h.2.1⟩
theorem AM_K (h : AM a s) {k : Nat} {v : Int32} : AM (setK a k v) (upd s (9 + 5 * k) v) := by
  obtain ⟨g1, g2⟩ := AM_p h (p := 9 + 5 * k) (v := v) (by omega)
  refine ⟨g1, g2, fun i hi => ?_⟩
  obtain ⟨k1, k2, k3, k4, k5⟩ := h.2.2 i hi
  refine ⟨?_, by rw [pk_un (by omega)]; exact k2, by rw [pk_un (by omega)]; exact k3, by rw [pk_un (by omega)]; exact k4, by rw [pk_un (by omega)]; exact k5⟩
  show _ = upd (tK a) k v i
  by_cases e : i = k
  · rw [e, pk_us, pk_us]
  · rw [pk_un (by omega), pk_un e]; exact k1
theorem AM_P (h : AM a s) {k : Nat} {v : Int32} : AM (setP a k v) (upd s (11 + 5 * k) v) := by
  obtain ⟨g1, g2⟩ := AM_p h (p := 11 + 5 * k) (v := v) (by omega)
  refine ⟨g1, g2, fun i hi => ?_⟩
  obtain ⟨k1, k2, k3, k4, k5⟩ := h.2.2 i hi
  refine ⟨by rw [pk_un (by omega)]; exact k1, by rw [pk_un (by omega)]; exact k2, ?_, by rw [pk_un (by omega)]; exact k4, by rw [pk_un (by omega)]; exact k5⟩
  show _ = upd (tP a) k v i
  by_cases e : i = k
  · rw [e, pk_us, pk_us]
  · rw [pk_un (by omega), pk_un e]; exact k3
theorem AM_U (h : AM a s) {k : Nat} {v : Int32} : AM (setU a k v) (upd s (12 + 5 * k) v) := by
  obtain ⟨g1, g2⟩ := AM_p h (p := 12 + 5 * k) (v := v) (by omega)
  refine ⟨g1, g2, fun i hi => ?_⟩
  obtain ⟨k1, k2, k3, k4, k5⟩ := h.2.2 i hi
  refine ⟨by rw [pk_un (by omega)]; exact k1, by rw [pk_un (by omega)]; exact k2, by rw [pk_un (by omega)]; exact k3, ?_, by rw [pk_un (by omega)]; exact k5⟩
  show _ = upd (tU a) k v i
  by_cases e : i = k
  · rw [e, pk_us, pk_us]
  · rw [pk_un (by omega), pk_un e]; exact k4
/-- the set with k in it or out of it -/
def putM (m k : Nat) (c : Bool) : Nat := if m.testBit k = c then m else m ^^^ 2 ^ k
theorem putM_bit (m k : Nat) (c : Bool) (i : Nat) : (putM m k c).testBit i = if i = k then c else m.testBit i := by
  unfold putM
  by_cases h : m.testBit k = c
  · rw [if_pos h]
    by_cases e : i = k
    · rw [if_pos e, e, h]
    · rw [if_neg e]
  · rw [if_neg h, Nat.testBit_xor, Nat.testBit_two_pow]
    by_cases e : i = k
    · rw [if_pos e, e, decide_eq_true rfl, Bool.xor_true]
      revert h
      cases m.testBit k <;> cases c <;> decide
    · rw [if_neg e, decide_eq_false (Ne.symm e), Bool.xor_false]
theorem putM_lt {m k n : Nat} (c : Bool) (hm : m < 2 ^ n) (hk : k < n) : putM m k c < 2 ^ n := by
  unfold putM
  split
  · exact hm
  · exact Nat.xor_lt_two_pow hm (Nat.pow_lt_pow_right (by omega) hk)
theorem AM_M (h : AM a s) {k : Nat} (c : Bool) : AM (setM a (putM (tM a) k c)) (upd s (10 + 5 * k) (nI c.toNat)) := by
  obtain ⟨g1, g2⟩ := AM_p h (p := 10 + 5 * k) (v := nI c.toNat) (by omega)
  refine ⟨g1, g2, fun i hi => ?_⟩
  obtain ⟨k1, k2, k3, k4, k5⟩ := h.2.2 i hi
  refine ⟨by rw [pk_un (by omega)]; exact k1, ?_, by rw [pk_un (by omega)]; exact k3, by rw [pk_un (by omega)]; exact k4, by rw [pk_un (by omega)]; exact k5⟩
  show _ = nI ((putM (tM a) k c).testBit i).toNat
  rw [putM_bit]
  by_cases e : i = k
  · rw [e, pk_us, if_pos rfl]
  · rw [pk_un (by omega), if_neg e]; exact k2
def sIx2 (i : Nat) : Nat := if i = 14 then 1 else if i = 12 then 2 else if i = 10 then 3 else if i = 11 then 4 else if i = 13 then 5 else if i = 7 then 6 else if i = 8 then 7 else 8
theorem sIx2_b (i : Nat) : 1 ≤ sIx2 i ∧ sIx2 i ≤ 8 := by
  unfold sIx2
  repeat' split
  all_goals omega
theorem AM_S (h : AM a s) {i : Nat} {v : Int32} (h1 : 7 ≤ i) (h2 : i ≤ 14) : AM (setS a i v) (upd s (sIx2 i) v) := by
  have r : ∀ p, 9 ≤ p → upd s (sIx2 i) v p = s p := fun p hp => pk_un (by have := sIx2_b i; omega)
  refine ⟨?_, ?_, fun k hk => ?_⟩
  · rw [pk_un (by have := sIx2_b i; omega)]; exact h.1
  · obtain ⟨g1, g2, g3, g4, g5, g6, g7, g8⟩ := h.2.1
    show upd s (sIx2 i) v 1 = upd (tS a) i v 14 ∧ upd s (sIx2 i) v 2 = upd (tS a) i v 12 ∧ upd s (sIx2 i) v 3 = upd (tS a) i v 10 ∧ upd s (sIx2 i) v 4 = upd (tS a) i v 11 ∧ upd s (sIx2 i) v 5 = upd (tS a) i v 13 ∧ upd s (sIx2 i) v 6 = upd (tS a) i v 7 ∧ upd s (sIx2 i) v 7 = upd (tS a) i v 8 ∧ upd s (sIx2 i) v 8 = upd (tS a) i v 9
    rcases (by omega : i = 7 ∨ i = 8 ∨ i = 9 ∨ i = 10 ∨ i = 11 ∨ i = 12 ∨ i = 13 ∨ i = 14) with rfl | rfl | rfl | rfl | rfl | rfl | rfl | rfl <;> exact ⟨by first | exact g1 | rfl, by first | exact g2 | rfl, by first | exact g3 | rfl, by first | exact g4 | rfl, by first | exact g5 | rfl, by first | exact g6 | rfl, by first | exact g7 | rfl, by first | exact g8 | rfl⟩
  · rw [r _ (by omega), r _ (by omega), r _ (by omega), r _ (by omega), r _ (by omega)]
    exact h.2.2 k hk
end RH
