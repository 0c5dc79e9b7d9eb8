/-! PURE LEAN FROM HERE: numbers, loops -/
theorem bs {α ρ : Type} {a : α} {F : α → Option ρ} : bn1 (some a) F = F a := rfl
theorem bs2 {ρ : Type} {a : Int32} {m : Mem} {F : Int32 → Mem → Option ρ} : bn2 (some (a, m)) F = F a m := rfl
theorem nms {α ρ : Type} {x : α} {F : α → Option ρ} : nm x F = F x := rfl
theorem ldM_n {f : Nat → Int32} {n k : Nat} (h : k < n) (hn : n < 2 ^ 31) : ldM f n (nI k) = some (f k) := by
  unfold ldM
  rw [nI_clamp (by omega), if_neg (fun z => z.elim (nI_pos (by omega)) (fun z => by omega))]
theorem stM_n {μ : Mem} {i n k : Nat} {v : Int32} (h : k < n) (hn : n < 2 ^ 31) : stM μ i n (nI k) v = some (mset μ i k v) := by
  unfold stM
  rw [nI_clamp (by omega), if_neg (fun z => z.elim (nI_pos (by omega)) (fun z => by omega))]
theorem rdM_n {n k : Nat} (h : k < n) (hn : n < 2 ^ 31) : rdM n (nI k) = some k := by
  unfold rdM
  rw [nI_clamp (by omega), if_neg (fun z => z.elim (nI_pos (by omega)) (fun z => by omega))]
theorem lpF_for {V X : Type} {body : V → Option (V ⊕ X)} (st : Nat → V) (x : X) : ∀ (N k fuel : Nat), k + N < fuel + k → (∀ j, k ≤ j → j < k + N → body (st j) = some (.inl (st (j + 1)))) → body (st (k + N)) = some (.inr x) → lpF body fuel (st k) = some x := by
  intro N
  induction N with
  | zero =>
    intro k fuel hf _ he
    cases fuel with
    | zero => omega
    | succ fuel =>
      rw [lpF]
      rw [Nat.add_zero] at he
      rw [he]
  | succ N ih =>
    intro k fuel hf hs he
    cases fuel with
    | zero => omega
    | succ fuel =>
      rw [lpF, hs k (Nat.le_refl k) (by omega)]
      exact ih (k + 1) fuel (by omega) (fun j h1 h2 => hs j (by omega) (by omega)) (by rw [show k + 1 + N = k + (N + 1) by omega]; exact he)
theorem lp0 {V X : Type} {body : V → Option (V ⊕ X)} {v : V} (st : Nat → V) (x : X) (N : Nat) {fuel : Nat} (hv : v = st 0) (hf : N < fuel) (hs : ∀ j, j < N → body (st j) = some (.inl (st (j + 1)))) (he : body (st N) = some (.inr x)) : lpF body fuel v = some x := by
  rw [hv]
  exact lpF_for st x N 0 fuel (by omega) (fun j _ h => hs j (by omega)) (by rw [Nat.zero_add]; exact he)
theorem bl {V X ρ : Type} {body : V → Option (V ⊕ X)} {v : V} {F : X → Option ρ} (st : Nat → V) (x : X) (N : Nat) {fuel : Nat} (hv : v = st 0) (hf : N < fuel) (hs : ∀ j, j < N → body (st j) = some (.inl (st (j + 1)))) (he : body (st N) = some (.inr x)) : bn1 (lpF body fuel v) F = F x := by rw [lp0 st x N hv hf hs he, bs]
theorem mrow_s {μ : Mem} {i : Nat} {f : Nat → Int32} : mrow μ i f i = f := if_pos rfl
theorem mrow_n {μ : Mem} {i j : Nat} {f : Nat → Int32} (h : j ≠ i) : mrow μ i f j = μ j := if_neg h
theorem mset_s {μ : Mem} {i k : Nat} {x : Int32} : mset μ i k x i = upd (μ i) k x := if_pos rfl
theorem mset_n {μ : Mem} {i j k : Nat} {x : Int32} (h : j ≠ i) : mset μ i k x j = μ j := if_neg h
theorem mset_ss {μ : Mem} {i k : Nat} {x : Int32} : mset μ i k x i k = x := by rw [mset_s]; exact if_pos rfl
theorem mset_sn {μ : Mem} {i k l : Nat} {x : Int32} (h : l ≠ k) : mset μ i k x i l = μ i l := by rw [mset_s]; exact if_neg h
/-- how many of the ten lowest bits -/
def pc (n : Nat) : Nat := n % 2 + n / 2 % 2 + n / 4 % 2 + n / 8 % 2 + n / 16 % 2 + n / 32 % 2 + n / 64 % 2 + n / 128 % 2 + n / 256 % 2 + n / 512 % 2
theorem pc_le (n : Nat) : pc n ≤ 10 := by unfold pc; omega
set_option maxRecDepth 100000 in
theorem bitCount_n : ∀ n, n < 1024 → f_J6_bitCount_0f7a4 (nI n) = some (nI (pc n)) := by decide +kernel
set_option maxRecDepth 100000 in
theorem manyIn_n : ∀ n, n < 1024 → f_X8_manyIn (nI n) = some (nI (pc n)) := by decide +kernel
set_option maxRecDepth 100000 in
theorem pc_zero : ∀ n, n < 1024 → (pc n = 0 ↔ n = 0) := by decide +kernel
theorem sh31 : ∀ k, k < 31 → (nI k &&& 31 = nI k) := by decide +kernel
theorem one_shl : ∀ k, k < 31 → (1 : Int32) <<< (nI k &&& 31) = nI (2 ^ k) := by decide +kernel
theorem shr_nI {x k : Nat} (hx : x < 2 ^ 31) (hk : k < 31) : nI x >>> (nI k &&& 31) = nI (x / 2 ^ k) := by
  rw [sh31 k hk]
  refine pk_shrN hx (nI k) k ?_
  exact (by decide +kernel : ∀ k, k < 31 → ((nI k).toBitVec.smod 32).toNat = k) k hk
theorem fa_and (a b : Nat) : nI a &&& nI b = nI (a &&& b) := by
  apply Int32.toBitVec_inj.1
  show BitVec.ofNat 32 a &&& BitVec.ofNat 32 b = BitVec.ofNat 32 (a &&& b)
  apply BitVec.eq_of_getLsbD_eq
  intro i hi
  simp [hi]
theorem fa_or (a b : Nat) : nI a ||| nI b = nI (a ||| b) := by
  apply Int32.toBitVec_inj.1
  show BitVec.ofNat 32 a ||| BitVec.ofNat 32 b = BitVec.ofNat 32 (a ||| b)
  apply BitVec.eq_of_getLsbD_eq
  intro i hi
  simp [hi]
theorem fb_xorI (a b : Nat) : nI a ^^^ nI b = nI (a ^^^ b) := by
  apply Int32.toBitVec_inj.1
  show BitVec.ofNat 32 a ^^^ BitVec.ofNat 32 b = BitVec.ofNat 32 (a ^^^ b)
  apply BitVec.eq_of_getLsbD_eq
  intro i hi
  simp [hi]
theorem and1_nI (x : Nat) : nI x &&& 1 = nI (x % 2) := by
  rw [show (1 : Int32) = nI 1 from rfl, fa_and, Nat.and_one_is_mod]
theorem bit_nI (x k : Nat) (hx : x < 2 ^ 31) (hk : k < 31) : (nI x >>> (nI k &&& 31)) &&& 1 = nI (x.testBit k).toNat := by
  rw [shr_nI hx hk, and1_nI, Nat.toNat_testBit]
theorem bit_shl (c : Bool) (k : Nat) (hk : k < 31) : nI c.toNat <<< (nI k &&& 31) = nI (if c then 2 ^ k else 0) := by
  cases c with
  | true => exact one_shl k hk
  | false => exact (by decide +kernel : ∀ k, k < 31 → nI 0 <<< (nI k &&& 31) = nI 0) k hk
theorem not_nI {a m : Nat} (hm : m < 31) : nI a &&& (nI (2 ^ m) ^^^ (-1)) = nI (a &&& (2 ^ m ^^^ 4294967295)) := by
  rw [show (-1 : Int32) = nI 4294967295 from rfl, fb_xorI, fa_and]
/-- sets by their members -/
def setTo (p : Nat → Bool) : Nat → Nat
  | 0 => 0
  | n + 1 => setTo p n ||| (if p n then 2 ^ n else 0)
theorem setTo_bit (p : Nat → Bool) : ∀ n i, (setTo p n).testBit i = (decide (i < n) && p i)
  | 0, i => by simp [setTo]
  | n + 1, i => by
    rw [setTo, Nat.testBit_or, setTo_bit p n i]
    by_cases h : i = n
    · subst h
      cases hp : p i <;> simp [hp, Nat.testBit_two_pow]
    · have h2 : (if p n then 2 ^ n else 0).testBit i = false := by
        cases p n
        · simp
        · simp [Nat.testBit_two_pow]; omega
      rw [h2, Bool.or_false]
      congr 1
      exact decide_eq_decide.mpr (by omega)
theorem setTo_lt (p : Nat → Bool) (n : Nat) : setTo p n < 2 ^ n := by
  apply Nat.lt_pow_two_of_testBit
  intro i hi
  rw [setTo_bit]
  simp; omega
theorem setTo_self {x n : Nat} (h : x < 2 ^ n) : setTo (fun k => x.testBit k) n = x := by
  apply Nat.eq_of_testBit_eq
  intro i
  rw [setTo_bit]
  by_cases hi : i < n
  · simp [hi]
  · rw [Nat.testBit_lt_two_pow (Nat.lt_of_lt_of_le h (Nat.pow_le_pow_right (by omega) (by omega)))]
    simp
theorem setTo_congr {p q : Nat → Bool} : ∀ {n : Nat}, (∀ k, k < n → p k = q k) → setTo p n = setTo q n
  | 0, _ => rfl
  | n + 1, h => by rw [setTo, setTo, setTo_congr (fun k hk => h k (by omega)), h n (by omega)]
theorem p10 {n k : Nat} (hn : n ≤ 10) (h : k < 2 ^ n) : k < 1024 := Nat.lt_of_lt_of_le h (Nat.pow_le_pow_right (by omega) hn)
def aSum (f : Nat → Nat) : Nat → Nat
  | 0 => 0
  | n + 1 => aSum f n + f n
theorem aSum_le {f : Nat → Nat} {c : Nat} (h : ∀ k, f k ≤ c) : ∀ n, aSum f n ≤ n * c
  | 0 => Nat.zero_le _
  | n + 1 => by rw [aSum, Nat.succ_mul]; exact Nat.add_le_add (aSum_le h n) (h n)
