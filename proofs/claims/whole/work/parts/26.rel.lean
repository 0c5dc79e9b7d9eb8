/-! THE RELATION of the two memories -/
/-- texts: key, how many numbers and names, how many steps, the steps (0 a number, 1 a name, 2 a sign; which) -/
abbrev TB : Type := Nat → Nat × Nat × Nat × (Nat → Nat × Nat)
def bK (t : TB) (i : Nat) : Nat := (t i).1
def bW (t : TB) (i : Nat) : Nat := (t i).2.1
def bL (t : TB) (i : Nat) : Nat := (t i).2.2.1
def bS (t : TB) (i : Nat) : Nat → Nat × Nat := (t i).2.2.2
/-- which of its key's names a letter is -/
def nmIx (key c : Nat) : Nat := if key = 0 then (if c = 111 then 0 else if c = 102 then 1 else 2) else if key = 1 then (if c = 99 then 0 else 1) else (if c = 111 then 0 else 1)
/-- how the class holds a step -/
def enc (key : Nat) (q : Nat × Nat) : Int32 := if q.1 = 0 then nI q.2 else if q.1 = 1 then -(nI (1 + nmIx key q.2)) else if q.2 = 33 then -4 else -(nI q.2)
/-- a step that can be -/
def okS (key : Nat) (q : Nat × Nat) : Prop := (q.1 = 0 ∧ q.2 ≤ 9999) ∨ (q.1 = 1 ∧ ((key = 0 ∧ (q.2 = 111 ∨ q.2 = 102 ∨ q.2 = 109)) ∨ (key = 1 ∧ (q.2 = 99 ∨ q.2 = 121)) ∨ (key = 2 ∧ (q.2 = 111 ∨ q.2 = 112)))) ∨ (q.1 = 2 ∧ (q.2 = 33 ∨ q.2 = 38 ∨ q.2 = 42 ∨ q.2 = 43 ∨ q.2 = 45 ∨ q.2 = 47 ∨ q.2 = 60 ∨ q.2 = 61 ∨ q.2 = 62 ∨ q.2 = 124))
/-- how many values lie on the pile behind j steps -/
def dep (s : Nat → Nat × Nat) : Nat → Nat
  | 0 => 0
  | j + 1 => if (s j).1 = 2 then (if (s j).2 = 33 then dep s j else dep s j - 1) else dep s j + 1
/-- no step takes more than lies there -/
def okD (s : Nat → Nat × Nat) (L : Nat) : Prop := (∀ j, j < L → (s j).1 = 2 → ((s j).2 = 33 ∧ 1 ≤ dep s j) ∨ ((s j).2 ≠ 33 ∧ 2 ≤ dep s j)) ∧ 1 ≤ dep s L
def TV (t : TB) (n : Nat) : Prop := ∀ i, i < n → bK t i ≤ 2 ∧ bL t i ≤ 96 ∧ (∀ j, j < bL t i → okS (bK t i) (bS t i j)) ∧ okD (bS t i) (bL t i)
def TC (t : TB) (μ : Mem) (n : Nat) : Prop := ∀ i, i < n → μ 2 i = nI (bK t i) ∧ μ 3 i = nI (bW t i) ∧ μ 4 i = nI (bL t i) ∧ ∀ j, j < bL t i → μ (7 + i) j = enc (bK t i) (bS t i j)
def TM (t : TB) (s : Nat → Int32) (n : Nat) : Prop := ∀ i, i < n → s (59 + 200 * i) = nI (bK t i) ∧ s (60 + 200 * i) = nI (bW t i) ∧ s (61 + 200 * i) = nI (bL t i) ∧ ∀ j, j < bL t i → s (63 + 200 * i + 2 * j) = nI (bS t i j).1 ∧ s (64 + 200 * i + 2 * j) = nI (bS t i j).2
def tX (a : AT) : Nat := (tS a 14).toNatClampNeg
def YV (a : AT) : Prop := ∃ z, z ≤ 9999 ∧ tS a 12 = nI z
theorem tX_eq {a : AT} (h : AV a) : tS a 14 = nI (tX a) ∧ tX a ≤ 14 := by
  obtain ⟨-, -, -, -, -, -, -, z, hz, e⟩ := h
  unfold tX
  rw [e, nI_clamp (by omega)]
  exact ⟨rfl, hz⟩
/-- a whole town: the class's at b, the reference's row, its texts -/
def Tw (t : TB) (a : AT) (μ : Mem) (b : Nat) (s : Nat → Int32) : Prop := AV a ∧ YV a ∧ AC a μ b ∧ AM a s ∧ TM t s (tX a)
def RTown (μ ν : Mem) : Prop := ∃ (t : TB) (a : AT), Tw t a μ 21 (ν 1) ∧ TV t (tX a) ∧ TC t μ (tX a) ∧ ((μ 0 10 = 0 ∧ ν 0 3 = 0) ∨ (μ 0 10 = 1 ∧ ν 0 3 = 1 ∧ ∃ i, Tw t i μ 26 (ν 2) ∧ tX i ≤ tX a))
def RTape (μ ν : Mem) : Prop := ∃ len, len ≤ 96 ∧ μ 38 2 = nI len ∧ ν 0 14 = nI len ∧ ∀ j, j < len → μ 39 j = ν 13 j ∧ ∃ z, z < 256 ∧ ν 13 j = nI z
def SV (sort size : Int32) (row : Nat → Int32) : Prop := ((sort = -1 ∧ size = 0) ∨ ((sort = 0 ∨ sort = 1) ∧ ∃ z, z ≤ 24 ∧ size = nI z)) ∧ ∀ j, j < 24 → (row j = -1000000005 ∧ sort = 1) ∨ (-99999 ≤ (row j).toInt ∧ (row j).toInt ≤ 99999)
def RSheet (μ ν : Mem) : Prop := ∀ i, i < 4 → μ (42 + 2 * i) 1 = ν 4 i ∧ μ (42 + 2 * i) 2 = ν 5 i ∧ (∀ j, j < 24 → μ (42 + 2 * i + 1) j = ν 6 (24 * i + j)) ∧ SV (ν 4 i) (ν 5 i) (fun j => ν 6 (24 * i + j))
def RSlot (μ ν : Mem) : Prop := ∀ i, i < 5 → μ (51 + 3 * i) 1 = ν 7 i ∧ (ν 7 i = 0 ∨ (ν 7 i = 1 ∧ (∃ z, z ≤ 5 ∧ μ (51 + 3 * i) 2 = nI z) ∧ ν 8 i = μ (51 + 3 * i) 2 ∧ f_X1_worth (μ (51 + 3 * i) 2) (μ (51 + 3 * i) 3) = some (ν 9 i)) ∨ (ν 7 i = 2 ∧ (∃ z, z ≤ 24 ∧ ν 10 i = nI z) ∧ μ (51 + 3 * i + 1) 2 = ν 10 i ∧ ∀ j, j < 24 → μ (51 + 3 * i + 1 + 1) j = ν 11 (24 * i + j)) ∨ (ν 7 i = 3 ∧ μ (51 + 3 * i) 4 = ν 8 i))
def RWait (μ ν : Mem) : Prop := ∃ w, w ≤ 60 ∧ μ 0 9 = nI w ∧ ν 0 29 = nI w ∧ ∀ j, j < w → μ 66 j = ν 17 j
def Rel (μ ν : Mem) : Prop := RTown μ ν ∧ RTape μ ν ∧ RSheet μ ν ∧ RSlot μ ν ∧ RWait μ ν
-- what else changes doesn't matter
theorem AC.of {a : AT} {μ μ' : Mem} {b : Nat} (h : AC a μ b) (h0 : ∀ i, b ≤ i → i ≤ b + 4 → μ' i = μ i) : AC a μ' b := by
  unfold AC
  rw [h0 b (by omega) (by omega), h0 (b + 1) (by omega) (by omega), h0 (b + 2) (by omega) (by omega), h0 (b + 3) (by omega) (by omega), h0 (b + 4) (by omega) (by omega)]
  exact h
theorem TC.of {t : TB} {μ μ' : Mem} {n : Nat} (hn : n ≤ 14) (h : TC t μ n) (h0 : ∀ i, 2 ≤ i → i ≤ 20 → i ≠ 6 → μ' i = μ i) : TC t μ' n := by
  intro i hi
  rw [h0 2 (by omega) (by omega) (by omega), h0 3 (by omega) (by omega) (by omega), h0 4 (by omega) (by omega) (by omega), h0 (7 + i) (by omega) (by omega) (by omega)]
  exact h i hi
theorem Tw.of {t : TB} {a : AT} {μ μ' : Mem} {b : Nat} {s : Nat → Int32} (h : Tw t a μ b s) (h0 : ∀ i, b ≤ i → i ≤ b + 4 → μ' i = μ i) : Tw t a μ' b s := ⟨h.1, h.2.1, h.2.2.1.of h0, h.2.2.2⟩
theorem RTown.of {μ μ' ν ν' : Mem} (h : RTown μ ν) (h0 : μ' 0 10 = μ 0 10) (h1 : ∀ i, 2 ≤ i → i ≤ 30 → i ≠ 6 → μ' i = μ i) (h2 : ν' 0 3 = ν 0 3) (h3 : ν' 1 = ν 1) (h4 : ν' 2 = ν 2) : RTown μ' ν' := by
  obtain ⟨t, a, e1, e2, e3, e4⟩ := h
  refine ⟨t, a, ?_, e2, e3.of (tX_eq e1.1).2 (fun i a1 a2 a3 => h1 i a1 (by omega) a3), ?_⟩
  · rw [h3]; exact e1.of (fun i a1 a2 => h1 i (by omega) (by omega) (by omega))
  · rw [h0, h2, h4]
    rcases e4 with e4 | ⟨e5, e6, i, e7, e8⟩
    · exact Or.inl e4
    · exact Or.inr ⟨e5, e6, i, e7.of (fun i a1 a2 => h1 i (by omega) (by omega) (by omega)), e8⟩
theorem RTape.of {μ μ' ν ν' : Mem} (h : RTape μ ν) (h0 : μ' 38 2 = μ 38 2) (h1 : μ' 39 = μ 39) (h2 : ν' 0 14 = ν 0 14) (h3 : ν' 13 = ν 13) : RTape μ' ν' := by
  unfold RTape
  rw [h0, h1, h2, h3]
  exact h
theorem RSheet.of {μ μ' ν ν' : Mem} (h : RSheet μ ν) (h0 : ∀ i, 42 ≤ i → i ≤ 49 → μ' i = μ i) (h1 : ν' 4 = ν 4) (h2 : ν' 5 = ν 5) (h3 : ν' 6 = ν 6) : RSheet μ' ν' := by
  intro i hi
  rw [h1, h2, h3, h0 (42 + 2 * i) (by omega) (by omega), h0 (42 + 2 * i + 1) (by omega) (by omega)]
  exact h i hi
theorem RSlot.of {μ μ' ν ν' : Mem} (h : RSlot μ ν) (h0 : ∀ i, 51 ≤ i → i ≤ 65 → μ' i = μ i) (h1 : ∀ i, 7 ≤ i → i ≤ 11 → ν' i = ν i) : RSlot μ' ν' := by
  intro i hi
  rw [h1 7 (by omega) (by omega), h1 8 (by omega) (by omega), h1 9 (by omega) (by omega), h1 10 (by omega) (by omega), h1 11 (by omega) (by omega), h0 (51 + 3 * i) (by omega) (by omega), h0 (51 + 3 * i + 1) (by omega) (by omega), h0 (51 + 3 * i + 1 + 1) (by omega) (by omega)]
  exact h i hi
theorem RWait.of {μ μ' ν ν' : Mem} (h : RWait μ ν) (h0 : μ' 0 9 = μ 0 9) (h1 : μ' 66 = μ 66) (h2 : ν' 0 29 = ν 0 29) (h3 : ν' 17 = ν 17) : RWait μ' ν' := by
  unfold RWait
  rw [h0, h1, h2, h3]
  exact h
/-- scratch cells alone have changed -/
def SameC (μ μ' : Mem) : Prop := ∀ i, i ≠ 6 → ¬ (31 ≤ i ∧ i ≤ 37) → i ≠ 40 → μ' i = μ i
def SameM (ν ν' : Mem) : Prop := ∀ i, i ≠ 3 → i ≠ 12 → i ≠ 14 → i ≠ 15 → i ≠ 16 → i ≠ 18 → ν' i = ν i
theorem Rel.of {μ μ' ν ν' : Mem} (h : Rel μ ν) (hc : SameC μ μ') (hm : SameM ν ν') : Rel μ' ν' := by
  obtain ⟨h1, h2, h3, h4, h5⟩ := h
  have c : ∀ i, i ≠ 6 → ¬ (31 ≤ i ∧ i ≤ 37) → i ≠ 40 → μ' i = μ i := hc
  have m : ∀ i, i ≠ 3 → i ≠ 12 → i ≠ 14 → i ≠ 15 → i ≠ 16 → i ≠ 18 → ν' i = ν i := hm
  have m0 := m 0 (by omega) (by omega) (by omega) (by omega) (by omega) (by omega)
  have c0 := c 0 (by omega) (by omega) (by omega)
  exact ⟨h1.of (by rw [c0]) (fun i a1 a2 a3 => c i a3 (by omega) (by omega)) (by rw [m0]) (m 1 (by omega) (by omega) (by omega) (by omega) (by omega) (by omega)) (m 2 (by omega) (by omega) (by omega) (by omega) (by omega) (by omega)),
    h2.of (by rw [c 38 (by omega) (by omega) (by omega)]) (c 39 (by omega) (by omega) (by omega)) (by rw [m0]) (m 13 (by omega) (by omega) (by omega) (by omega) (by omega) (by omega)),
    h3.of (fun i a1 a2 => c i (by omega) (by omega) (by omega)) (m 4 (by omega) (by omega) (by omega) (by omega) (by omega) (by omega)) (m 5 (by omega) (by omega) (by omega) (by omega) (by omega) (by omega)) (m 6 (by omega) (by omega) (by omega) (by omega) (by omega) (by omega)),
    h4.of (fun i a1 a2 => c i (by omega) (by omega) (by omega)) (fun i a1 a2 => m i (by omega) (by omega) (by omega) (by omega) (by omega) (by omega)),
    h5.of (by rw [c0]) (c 66 (by omega) (by omega) (by omega)) (by rw [m0]) (m 17 (by omega) (by omega) (by omega) (by omega) (by omega) (by omega))⟩
theorem SameC.rf (μ : Mem) : SameC μ μ := fun _ _ _ _ => rfl
theorem SameM.rf (μ : Mem) : SameM μ μ := fun _ _ _ _ _ _ _ => rfl
theorem SameC.tr {a b c : Mem} (h : SameC a b) (h2 : SameC b c) : SameC a c := fun i h3 h4 h5 => (h2 i h3 h4 h5).trans (h i h3 h4 h5)
theorem SameM.tr {a b c : Mem} (h : SameM a b) (h2 : SameM b c) : SameM a c := fun i h3 h4 h5 h6 h7 h8 => (h2 i h3 h4 h5 h6 h7 h8).trans (h i h3 h4 h5 h6 h7 h8)
-- the two at the start
theorem AV_0 : AV (0, z0, z0, z0, (fun _ => 0), 0, (fun k => if k = 13 then 1 else 0)) := ⟨by decide, by decide, fun k h => absurd h (Nat.not_lt_zero k), fun i j h => absurd h (Nat.not_lt_zero i), ⟨0, by decide, rfl⟩, ⟨0, by decide, rfl⟩, ⟨0, by decide, rfl⟩, ⟨0, by decide, rfl⟩⟩
theorem Rel_0 : Rel μ0 ν0 := by
  refine ⟨⟨(fun _ => (0, 0, 0, fun _ => (0, 0))), (0, z0, z0, z0, (fun _ => 0), 0, (fun k => if k = 13 then 1 else 0)), ⟨AV_0, ⟨0, by decide, rfl⟩, ⟨rfl, rfl, fun j h1 h2 => ?_, fun k h => absurd h (Nat.not_lt_zero k)⟩, ⟨rfl, ⟨rfl, rfl, rfl, rfl, rfl, rfl, rfl, rfl⟩, fun k h => absurd h (Nat.not_lt_zero k)⟩, fun i h => absurd h (Nat.not_lt_zero i)⟩, fun i h => absurd h (Nat.not_lt_zero i), fun i h => absurd h (Nat.not_lt_zero i), Or.inl ⟨rfl, rfl⟩⟩, ⟨0, by decide, rfl, rfl, fun j h => absurd h (Nat.not_lt_zero j)⟩, fun i hi => ?_, fun i hi => ?_, ⟨0, by decide, rfl, rfl, fun j h => absurd h (Nat.not_lt_zero j)⟩⟩
  · rfl
  · have hz : ∀ j, ν0 6 j = 0 := fun j => rfl
    refine ⟨?_, ?_, fun j hj => ?_, Or.inl ⟨?_, ?_⟩, fun j hj => Or.inr ?_⟩
    · rcases (by omega : i = 0 ∨ i = 1 ∨ i = 2 ∨ i = 3) with rfl | rfl | rfl | rfl <;> rfl
    · rcases (by omega : i = 0 ∨ i = 1 ∨ i = 2 ∨ i = 3) with rfl | rfl | rfl | rfl <;> rfl
    · rcases (by omega : i = 0 ∨ i = 1 ∨ i = 2 ∨ i = 3) with rfl | rfl | rfl | rfl <;> rfl
    · rcases (by omega : i = 0 ∨ i = 1 ∨ i = 2 ∨ i = 3) with rfl | rfl | rfl | rfl <;> rfl
    · rcases (by omega : i = 0 ∨ i = 1 ∨ i = 2 ∨ i = 3) with rfl | rfl | rfl | rfl <;> rfl
    · dsimp only
      rw [hz]
      decide
  · refine ⟨?_, Or.inl rfl⟩
    rcases (by omega : i = 0 ∨ i = 1 ∨ i = 2 ∨ i = 3 ∨ i = 4) with rfl | rfl | rfl | rfl | rfl <;> rfl
-- arguments: one of n, or not
theorem isIn_M (x : Int32) (lo hi : Int64) : f_X8_isIn x.toInt64 lo hi = some (if lo.toInt ≤ x.toInt ∧ x.toInt ≤ hi.toInt then 1 else 0) := by
  unfold f_X8_isIn
  have e : x.toInt64.toInt = x.toInt := Int32.toInt_toInt64 x
  by_cases h1 : lg_cmp x.toInt64 lo < 0
  · rw [if_pos h1, if_neg (fun z => by have := Int64.lt_iff_toInt_lt.mp ((lg_cmp_lt _ _).mp h1); omega)]
  · rw [if_neg h1]
    have a1 : lo.toInt ≤ x.toInt := Int.not_lt.mp (fun z => h1 ((lg_cmp_lt _ _).mpr (Int64.lt_iff_toInt_lt.mpr (by rw [e]; exact z))))
    by_cases h2 : 0 < lg_cmp x.toInt64 hi
    · rw [if_pos h2, if_neg (fun z => by have := Int64.lt_iff_toInt_lt.mp ((lg_cmp_gt _ _).mp h2); omega)]
    · rw [if_neg h2, if_pos ⟨a1, Int.not_lt.mp (fun z => h2 ((lg_cmp_gt _ _).mpr (Int64.lt_iff_toInt_lt.mpr (by rw [e]; exact z))))⟩]
theorem out_C (x lo hi : Int32) : f_X7_outside x lo hi = some (if lo.toInt ≤ x.toInt ∧ x.toInt ≤ hi.toInt then 0 else 1) := by
  unfold f_X7_outside
  by_cases h1 : x < lo
  · rw [if_pos h1, if_neg (fun z => by have := Int32.lt_iff_toInt_lt.mp h1; omega)]
  · rw [if_neg h1]
    have a1 : lo.toInt ≤ x.toInt := Int.not_lt.mp (fun z => h1 (Int32.lt_iff_toInt_lt.mpr z))
    by_cases h2 : x ≤ hi
    · rw [if_pos h2, if_pos ⟨a1, Int32.le_iff_toInt_le.mp h2⟩]
    · rw [if_neg h2, if_neg (fun z => h2 (Int32.le_iff_toInt_le.mpr z.2))]
theorem zM_0 : zM 0 = some 0 := rfl
theorem zM_1 : zM 1 = some 1 := rfl
theorem zM_if {c : Prop} [inst : Decidable c] {x y : Int32} (hx : x = 0 ∨ x = 1) (hy : y = 0 ∨ y = 1) : zM (if c then x else y) = some (if c then x else y) := by
  unfold zM
  by_cases h : c
  · rw [if_pos h, if_pos hx]
  · rw [if_neg h, if_pos hy]
/-- x is a number from 0 on, below n -/
def isK (x : Int32) (n : Nat) : Prop := 0 ≤ x.toInt ∧ x.toInt ≤ (n : Int) - 1
theorem isK_n {x : Int32} {n : Nat} (h : isK x n) : ∃ k, k < n ∧ x = nI k := by
  obtain ⟨h1, h2⟩ := h
  obtain ⟨j, hj, e⟩ := nI_of (x := x) (fun z => by have := Int32.lt_iff_toInt_lt.mp z; have : (0 : Int32).toInt = 0 := rfl; omega)
  subst e
  rw [nI_toInt hj] at h2
  exact ⟨j, by omega, rfl⟩
theorem n1_toInt {n : Nat} (h : n < 2 ^ 30) : (nI n - 1).toInt = (n : Int) - 1 := by
  rw [show (1 : Int32) = nI 1 from rfl, pk_sub_toInt h (by omega)]
  rfl
theorem isNobody_C {a : AT} {μ : Mem} (hV : AV a) (h : AC a μ 21) (x : Int32) : f_X7_isNobody x μ = some (if 0 ≤ x.toInt ∧ x.toInt ≤ (tN a : Int) - 1 then 0 else 1) := by
  unfold f_X7_isNobody
  rw [out_C, bs, zM_if (Or.inl rfl) (Or.inr rfl), h.1, n1_toInt (by have := hV.1; omega)]
  rfl
theorem isOne_M {a : AT} {ν : Mem} (hV : AV a) (h : AM a (ν 1)) (x : Int32) : f_X8_isOne x ν = some (if 0 ≤ x.toInt ∧ x.toInt ≤ (tN a : Int) - 1 then 1 else 0) := by
  unfold f_X8_isOne
  rw [show (0 : Int32) = nI 0 from rfl, ldM_n (by omega) (by omega), bs, h.1, isIn_M, bs, zM_if (Or.inr rfl) (Or.inl rfl)]
  rw [Int32.toInt_toInt64, n1_toInt (by have := hV.1; omega)]
  rfl
theorem one_0 : ¬ (1 : Int32) = 0 := by decide
