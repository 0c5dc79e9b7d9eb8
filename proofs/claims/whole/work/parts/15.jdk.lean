def tabF : Nat → Int32 := fun j => ([-1, 0, 0, 1, 2, 0] : List Int32).getD j 0
def strLen : List Nat := [4, 3, 4, 3, 2, 2, 1, 1, 3, 2, 2]
def strByt : List (List Int32) := [[100, 117, 101, 115], [102, 101, 101], [102, 105, 110, 101], [111, 102, 109], [99, 121], [111, 112], [124], [38], [60, 61, 62], [43, 45], [42, 47]]
def strPl : List Nat := [56, 62, 64, 121, 123, 125, 81, 83, 85, 87, 89]
def strTx : List String := ["dues", "fee", "fine", "ofm", "cy", "op", "|", "&", "<=>", "+-", "*/"]
/-- the byte at place j of text i -/
def sbyt (i j : Nat) : Int32 := (strByt.getD i []).getD j 0
/-- what the class reads and nobody writes: its table, the texts, two statics of the JDK's -/
def XC (k : Nat → Nat) : (Nat → Prop) → State → Heap → Prop := fun A U H =>
  (∃ t, va_Z "HalfFriends$Kinds" "ABOVE" "[I" (.ref t) A U H ∧ va_T .int t 6 (fun j => .int (tabF j)) A U H) ∧
  va_Z "java/lang/String" "COMPACT_STRINGS" "Z" (.int 1) A U H ∧
  va_Zq "jdk/internal/util/Preconditions" "SIOOBE_FORMATTER" "Ljava/util/function/BiFunction;" A U H ∧
  (∀ i, i < 11 → vk_R RX3 (strPl.getD i 0) (strTx.getD i "") (k i) U) ∧
  vk_S 11 strLen strByt k (fun i => k (11 + i)) A U H
theorem XC_ok {k : Nat → Nat} : ∀ (A B : Nat → Prop) (s U : State) (H H1 : Heap), XC k A s H → s.WarmedH U.vm → (∀ a, a < H.size → ¬ A a → H1[a]? = H[a]?) → (∀ a, B a → A a) → XC k B U H1 := by
  intro A B s U H H1 h hW hk hB
  obtain ⟨⟨t, h1, h2⟩, h3, h4, h5, h6⟩ := h
  exact ⟨⟨t, ((h1.kept hk).moved hW.alike).narrow hB, ((h2.kept hk).moved hW.alike).narrow hB⟩, ((h3.kept hk).moved hW.alike).narrow hB, ((h4.kept hk).moved hW.alike).narrow hB, fun i hi => (h5 i hi).warm hW, ((h6.kept hk).moved hW.alike).narrow hB⟩
def HasX (Y : SYS) : Prop := sX Y = XC (sK Y)
section GT0
variable {Y : SYS} {G : GT} {own : String} {cc : ByteArray} {nL : Nat} {R : Room} {pc : Nat} {lv lv' : List (Nat × Value)} {st rest : List Value} {μ : Mem}
theorem g_tablen (Γ : IsG Y G own cc nL R) {index : Nat} (hd : decode cc pc = .ok (.getstatic index, 3)) (hd2 : decode cc (pc + 3) = .ok (.arraylength, 1)) (hY : HasX Y) (hw : Cond.fieldLink own index "HalfFriends$Kinds" "ABOVE" "[I" ∈ WL) (kk : G (pc + 4) lv (.int 6 :: st) μ) : G pc lv st μ := by
  obtain ⟨p, e, s, m, args, below, meth, c, cells, slots, Z, A, rfl, hx, hb, hml, hown, hts, hK, hQ, hA, hXO, hX, hcl, hsl⟩ := Γ
  rw [hY] at hX
  obtain ⟨⟨t, x1, x2⟩, x3, x4, x5, x6⟩ := hX
  intro H locs ls hP hS hl
  exact va_gets hx hb x1 hS hown (hts _ hw) (fun _ h => h) hd (va_tlen hx hb x2 hS rfl hd2 (kk H locs ls hP hS hl))
theorem g_tabld (Γ : IsG Y G own cc nL R) {ρ : Type} {index i : Nat} {k : Fin 4} {x : Int32} {F : Int32 → Option ρ} {r : ρ} (j : Nat) (hd : decode cc pc = .ok (.getstatic index, 3)) (hd2 : decode cc (pc + 3) = .ok (.iload_n k, 1)) (hd3 : decode cc (pc + 4) = .ok (.iaload, 1)) (hY : HasX Y) (hw : Cond.fieldLink own index "HalfFriends$Kinds" "ABOVE" "[I" ∈ WL) (hi : (k : Nat) = i) (hj : lv[j]? = some (i, .int x)) (hf : bn1 (ldM tabF 6 x) F = some r) (kk : ∀ v, F v = some r → G (pc + 5) lv (.int v :: st) μ) : G pc lv st μ := by
  obtain ⟨p, e, s, m, args, below, meth, c, cells, slots, Z, A, rfl, hx, hb, hml, hown, hts, hK, hQ, hA, hXO, hX, hcl, hsl⟩ := Γ
  rw [hY] at hX
  obtain ⟨⟨t, x1, x2⟩, x3, x4, x5, x6⟩ := hX
  intro H locs ls hP hS hl
  obtain ⟨v, h1, h2⟩ := bn1_i hf
  unfold ldM at h1
  by_cases hin : x < 0 ∨ 6 ≤ x.toNatClampNeg
  · rw [if_pos hin] at h1; cases h1
  · rw [if_neg hin] at h1; cases h1
    exact va_gets hx hb x1 hS hown (hts _ hw) (fun _ h => h) hd (lv_iload_n hx hb hd2 hi (lv_at hl j hj) (va_ti hx hb x2 hS (show vp_in x 6 from hin) rfl hd3 (kk _ h2 H locs ls hP hS hl)))
theorem g_cstat (Γ : IsG Y G own cc nL R) {index : Nat} (hd : decode cc pc = .ok (.getstatic index, 3)) (hY : HasX Y) (hw : Cond.fieldLink own index "java/lang/String" "COMPACT_STRINGS" "Z" ∈ WL) (kk : G (pc + 3) lv (.int 1 :: st) μ) : G pc lv st μ := by
  obtain ⟨p, e, s, m, args, below, meth, c, cells, slots, Z, A, rfl, hx, hb, hml, hown, hts, hK, hQ, hA, hXO, hX, hcl, hsl⟩ := Γ
  rw [hY] at hX
  obtain ⟨⟨t, x1, x2⟩, x3, x4, x5, x6⟩ := hX
  intro H locs ls hP hS hl
  exact va_gets hx hb x3 hS hown (hts _ hw) (fun _ h => h) hd (kk H locs ls hP hS hl)
theorem g_zq (Γ : IsG Y G own cc nL R) {index : Nat} (hd : decode cc pc = .ok (.getstatic index, 3)) (hY : HasX Y) (hw : Cond.fieldLink own index "jdk/internal/util/Preconditions" "SIOOBE_FORMATTER" "Ljava/util/function/BiFunction;" ∈ WL) (kk : ∀ v : Option Nat, G (pc + 3) lv (va_rf v :: st) μ) : G pc lv st μ := by
  obtain ⟨p, e, s, m, args, below, meth, c, cells, slots, Z, A, rfl, hx, hb, hml, hown, hts, hK, hQ, hA, hXO, hX, hcl, hsl⟩ := Γ
  rw [hY] at hX
  obtain ⟨⟨t, x1, x2⟩, x3, x4, x5, x6⟩ := hX
  intro H locs ls hP hS hl
  rcases x4 with x4 | ⟨t4, x4⟩
  · exact va_gets hx hb x4 hS hown (hts _ hw) (fun _ h => h) hd (kk none H locs ls hP hS hl)
  · exact va_gets hx hb x4 hS hown (hts _ hw) (fun _ h => h) hd (kk (some t4) H locs ls hP hS hl)
theorem g_sval (Γ : IsG Y G own cc nL R) {index i : Nat} (hd : decode cc pc = .ok (.getfield index, 3)) (hY : HasX Y) (hi : i < 11) (hw : Cond.fieldLink own index "java/lang/String" "value" "[B" ∈ WL) (kk : G (pc + 3) lv (.ref (sK Y (11 + i)) :: st) μ) : G pc lv (.ref (sK Y i) :: st) μ := by
  obtain ⟨p, e, s, m, args, below, meth, c, cells, slots, Z, A, rfl, hx, hb, hml, hown, hts, hK, hQ, hA, hXO, hX, hcl, hsl⟩ := Γ
  rw [hY] at hX
  obtain ⟨⟨t, x1, x2⟩, x3, x4, x5, x6⟩ := hX
  intro H locs ls hP hS hl
  exact vk_getf hx hb (x6.1 i hi).2.2.1 hS hown (hts _ hw) (fun _ h => h) hd (kk H locs ls hP hS hl)
theorem g_scod (Γ : IsG Y G own cc nL R) {index i : Nat} (hd : decode cc pc = .ok (.getfield index, 3)) (hY : HasX Y) (hi : i < 11) (hw : Cond.fieldLink own index "java/lang/String" "coder" "B" ∈ WL) (kk : G (pc + 3) lv (.int 0 :: st) μ) : G pc lv (.ref (sK Y i) :: st) μ := by
  obtain ⟨p, e, s, m, args, below, meth, c, cells, slots, Z, A, rfl, hx, hb, hml, hown, hts, hK, hQ, hA, hXO, hX, hcl, hsl⟩ := Γ
  rw [hY] at hX
  obtain ⟨⟨t, x1, x2⟩, x3, x4, x5, x6⟩ := hX
  intro H locs ls hP hS hl
  exact vk_getf hx hb (x6.1 i hi).2.1 hS hown (hts _ hw) (fun _ h => h) hd (kk H locs ls hP hS hl)
theorem g_sal (Γ : IsG Y G own cc nL R) {i : Nat} (hd : decode cc pc = .ok (.arraylength, 1)) (hY : HasX Y) (hi : i < 11) (kk : G (pc + 1) lv (.int (nI (strLen.getD i 0)) :: st) μ) : G pc lv (.ref (sK Y (11 + i)) :: st) μ := by
  obtain ⟨p, e, s, m, args, below, meth, c, cells, slots, Z, A, rfl, hx, hb, hml, hown, hts, hK, hQ, hA, hXO, hX, hcl, hsl⟩ := Γ
  rw [hY] at hX
  obtain ⟨⟨t, x1, x2⟩, x3, x4, x5, x6⟩ := hX
  intro H locs ls hP hS hl
  exact va_tlen hx hb (x6.1 i hi).2.2.2 hS rfl hd (kk H locs ls hP hS hl)
theorem g_sbal (Γ : IsG Y G own cc nL R) {ρ : Type} {i : Nat} {x : Int32} {F : Int32 → Option ρ} {r : ρ} (hd : decode cc pc = .ok (.baload, 1)) (hY : HasX Y) (hi : i < 11) (hf : bn1 (ldM (sbyt i) (strLen.getD i 0) x) F = some r) (kk : ∀ v, F v = some r → G (pc + 1) lv (.int v :: st) μ) : G pc lv (.int x :: .ref (sK Y (11 + i)) :: st) μ := by
  obtain ⟨p, e, s, m, args, below, meth, c, cells, slots, Z, A, rfl, hx, hb, hml, hown, hts, hK, hQ, hA, hXO, hX, hcl, hsl⟩ := Γ
  rw [hY] at hX
  obtain ⟨⟨t, x1, x2⟩, x3, x4, x5, x6⟩ := hX
  intro H locs ls hP hS hl
  obtain ⟨v, h1, h2⟩ := bn1_i hf
  unfold ldM at h1
  by_cases hin : x < 0 ∨ strLen.getD i 0 ≤ x.toNatClampNeg
  · rw [if_pos hin] at h1; cases h1
  · rw [if_neg hin] at h1; cases h1
    exact va_tb hx hb (x6.1 i hi).2.2.2 hS (show vp_in x _ from hin) rfl hd (kk _ h2 H locs ls hP hS hl)
theorem g_ldcS {Y : SYS} {G : GT} {cc : ByteArray} {nL : Nat} {R : Room} {pc : Nat} {lv : List (Nat × Value)} {st : List Value} {μ : Mem} (Γ : IsG Y G RX3 cc nL R) {index : Nat} (hd : decode cc pc = .ok (.ldc index, 2)) (hY : HasX Y) (i : Nat) (hi : i < 11) (hix : strPl.getD i 0 = index) (kk : G (pc + 2) lv (.ref (sK Y i) :: st) μ) : G pc lv st μ := by
  obtain ⟨p, e, s, m, args, below, meth, c, cells, slots, Z, A, rfl, hx, hb, hml, hown, hts, hK, hQ, hA, hXO, hX, hcl, hsl⟩ := Γ
  rw [hY] at hX
  obtain ⟨-, -, -, x5, -⟩ := hX
  intro H locs ls hP hS hl
  subst hix
  exact va_ldcS hx hb hown (x5 i hi) hd (kk H locs ls hP hS hl)
theorem g_i2b (Γ : IsG Y G own cc nL R) {x : Int32} (hd : decode cc pc = .ok (.i2b, 1)) (kk : G (pc + 1) lv (.int (x.toInt8.toInt32) :: st) μ) : G pc lv (.int x :: st) μ := by
  obtain ⟨p, e, s, m, args, below, meth, c, cells, slots, Z, A, rfl, hx, hb, hml, hown, hts, hK, hQ, hA, hXO, hX, hcl, hsl⟩ := Γ
  intro H locs ls hP hS hl
  exact lv_i2b hx hb hd rfl (kk H locs ls hP hS hl)
/-- a call at a text -/
theorem g_callT (Γ : IsG Y G own cc nL R) {y : MethodName} {cc' : ByteArray} {n' d k index i : Nat} {ret : Option FieldType} {as st0 : List Value} {x : Int32} (hd : decode cc pc = .ok (.invokevirtual index, 3)) (hM : KC Y y cc' n' ret d (.ref (sK Y i) :: as) μ (some (.int x)) μ) (hY : HasX Y) (hi : i < 11) (hcl : y.cls = "java/lang/String") (hI : MI y cc' n' ret k) (hV : MV y) (hw : Cond.methodLink own index y ∈ WL) (hk : as.length = k) (hR : d + 1 ≤ R.frames ∧ 8 + (n' + 11) + 40 * d ≤ R.locals) (hst : st0 = as.reverse ++ .ref (sK Y i) :: st) (hcat : (st.map fun v => v.category).sum ≤ 8) (kk : G (pc + 3) lv (.int x :: st) μ) : G pc lv st0 μ := by
  obtain ⟨p, e, s, m, args, below, meth, c, cells, slots, Z, A, rfl, hx, hb, hml, hown, hts, hK, hQ, hA, hXO, hX, hce, hsl⟩ := Γ
  have hX0 := hX
  rw [hY] at hX
  intro H locs ls hP hS hl
  obtain ⟨i1, i2, i3, i4, i5⟩ := hI
  refine w_back (va_runV (As := as) (rest := st) ⟨hx, hb, hml, hown, hts⟩ (hM H.size) (cwV k hts (fun w h => ?_) rfl rfl rfl ⟨rfl, i3, i4, i5⟩ hR) ⟨pre_blind, (by rw [hcl]; exact vk_recv hX.2.2.2.2 hi hS), pre_at hP hS hK hQ hA hXO hX0⟩ rfl hk hl.1 hst (lv_room hcat) hd ⟨hce, hsl⟩) hS (FA_sub hQ hA hS.1) (fun H1 locs1 hP1 hS1 => kk H1 locs1 ls hP1 hS1 hl)
  unfold wsV at h
  rcases List.mem_append.mp h with h | h
  · simp only [List.mem_cons, List.not_mem_nil, or_false] at h
    rcases h with rfl | rfl | rfl | rfl
    · exact wl_gi hw
    · exact wl_gi hV.1
    · exact wl_gi hV.2
    · exact wl_gi i2
  · exact wl_code i1 w h
end GT0
def RetN (G : GT) (cc : ByteArray) (ty : FieldType) (x : Int32) (m : Mem) : Prop := ∀ pc lv, decode cc pc = .ok (.ireturn, 1) → narrow ty (.int x) = .int x → G pc lv [.int x] m
theorem KC.N {Y : SYS} {y : MethodName} {cc : ByteArray} {n d : Nat} {ty : FieldType} {as : List Value} {μ m : Mem} {x : Int32} (own : String) (lv : List (Nat × Value)) (hpl : plainName y.cls = true) (hown : y.cls = own) (hlen : (lg_sl as).length ≤ n) (hlv : lv_args 0 as = lv)
    (body : ∀ G : GT, IsG Y G own cc n (RM d) → RetN G cc ty x m → G 0 lv [] μ) : KC Y y cc n (some ty) d as μ (some (.int x)) m := by
  intro sz
  refine Met.ofW (cc := cc) (maxL := n) (ret := some ty) hpl rfl ?_
  intro p e s m0 args below meth c s₁ B hml hv
  obtain ⟨rfl, hsz, hP, hK, hQ, hXO, hX⟩ := hv
  have hx := B.exec
  have hb := B.bytes
  have hr := B.returns
  have hts := atoms_spec (ws := Cond.code y cc n (some ty) :: WL) B.pre
  have hown1 : s.vm.findClass own = some m0.cls := by rw [← hown]; exact findClass_of_methodNamed B.named
  have hlocks := B.notSynchronized
  subst hsz
  have hQF : QI Y (FA Y s.heap.size) := hQ.of (fun i hi => Or.inl ⟨i, hi, rfl⟩)
  have hl := lv_entry as (n := n) hlen
  rw [hlv] at hl
  rw [lg_entry_eq]
  have hS0 : va_S (FA Y s.heap.size) s.heap s.heap [] := va_S.rf
  refine body (fun pc lv st μ => ∀ (H : Heap) (locs : List Loc) (ls : Array Slot), va_P (sD Y) vwCl (wld Y μ) H → va_S (FA Y s.heap.size) s.heap H locs → lv_has ls n lv → W p (sL Y) e (RM d) s m0 as.toArray below meth c H locs 0 0 (MQ below (QG Y (some (.int x)) m s.heap.size) as.toArray s 0 0 (FA Y s.heap.size)) (F0 m0 pc ls st))
    ⟨p, e, s, m0, as.toArray, below, meth, c, 0, 0, _, FA Y s.heap.size, rfl, hx, hb, hml, hown1, fun w h => hts w (List.mem_cons_of_mem _ h), hK, hQF, fun a h => Or.inr h, hXO, hX, Nat.le_refl 0, Nat.le_refl 0⟩ ?_ s.heap [] _ hP hS0 hl
  intro pc lv hd hn H locs ls hP hS hl
  exact W.zret hx hb hr hn (fun t ht hW => ⟨⟨rfl, by rw [ht]; exact hP⟩, hS.F ht⟩) hS.2.2 hd
def nrM (ty : FieldType) (v : Int32) : Option Int32 := if narrow ty (.int v) = .int v then some v else none
theorem rNr {G : GT} {cc : ByteArray} {ty : FieldType} {x v : Int32} {μ : Mem} {pc : Nat} {lv : List (Nat × Value)} (h : RetN G cc ty x μ) (hd : decode cc pc = .ok (.ireturn, 1)) (hf : nrM ty v = some x) : G pc lv [.int v] μ := by
  unfold nrM at hf
  by_cases h01 : narrow ty (.int v) = .int v
  · rw [if_pos h01] at hf
    cases hf
    exact h pc lv hd h01
  · rw [if_neg h01] at hf; cases hf
set_option maxRecDepth 100000 in
set_option maxHeartbeats 4000000 in
theorem c_J3_chk {Y : SYS} {i n : Int32} {v : Option Nat} {μ : Mem} (h1 : ¬ i < 0) (h2 : i < n) : KC Y yJ3_checkIndex_8e157 cJ3_checkIndex_8e157 3 (some .int) 0 [.int i, .int n, va_rf v] μ (some (.int i)) μ := by
  have key : ∀ (u : Value), lv_args 0 [.int i, .int n, u] = [(0, .int i), (1, .int n), (2, u)] → (lg_sl [.int i, .int n, u]).length ≤ 3 → KC Y yJ3_checkIndex_8e157 cJ3_checkIndex_8e157 3 (some .int) 0 [.int i, .int n, u] μ (some (.int i)) μ := by
    intro u q1 q2
    refine KC.I RJ3 [(0, .int i), (1, .int n), (2, u)] (by decide) rfl q2 q1 (fun G Γ ret => ?_)
    refine g_iload_n Γ (pc := 0) 0 dJ3_checkIndex_8e157_0 rfl rfl ?_
    refine g_if_lt_f Γ (pc := 1) (tgt := 9) dJ3_checkIndex_8e157_1 rfl h1 ?_
    refine g_iload_n Γ (pc := 4) 0 dJ3_checkIndex_8e157_4 rfl rfl ?_
    refine g_iload_n Γ (pc := 5) 1 dJ3_checkIndex_8e157_5 rfl rfl ?_
    refine g_icmp_lt_t Γ (pc := 6) (tgt := 16) dJ3_checkIndex_8e157_6 rfl h2 ?_
    refine g_iload_n Γ (pc := 16) 0 dJ3_checkIndex_8e157_16 rfl rfl ?_
    exact rIr ret dJ3_checkIndex_8e157_17 rfl
  cases v with
  | none => exact key .null rfl (Nat.le_of_ble_eq_true rfl)
  | some a => exact key (.ref a) rfl (Nat.le_of_ble_eq_true rfl)
set_option maxRecDepth 100000 in
set_option maxHeartbeats 4000000 in
theorem c_J0_chk {Y : SYS} (hY : HasX Y) {i n : Int32} {μ : Mem} (h1 : ¬ i < 0) (h2 : i < n) : KC Y yJ0_checkIndex_df160 cJ0_checkIndex_df160 2 none 1 [.int i, .int n] μ none μ := by
  refine KC.V RJ0 [(0, .int i), (1, .int n)] (by decide) rfl (Nat.le_of_ble_eq_true rfl) rfl (fun G Γ ret => ?_)
  refine g_iload_n Γ (pc := 0) 0 dJ0_checkIndex_df160_0 rfl rfl ?_
  refine g_iload_n Γ (pc := 1) 1 dJ0_checkIndex_df160_1 rfl rfl ?_
  refine g_zq Γ (pc := 2) dJ0_checkIndex_df160_2 hY kF_J0_1053 (fun v => ?_)
  refine g_callSI Γ (pc := 5) (as := [.int i, .int n, va_rf v]) (st := []) dJ0_checkIndex_df160_5 (c_J3_chk h1 h2) mi_J3_checkIndex_8e157 ms_J3_checkIndex_8e157 kM_J0_1059 rfl ⟨Nat.le_of_ble_eq_true rfl, Nat.le_of_ble_eq_true rfl⟩ rfl (Nat.le_of_ble_eq_true rfl) ?_
  refine g_pop Γ (pc := 8) dJ0_checkIndex_df160_8 rfl ?_
  exact rV ret dJ0_checkIndex_df160_9 rfl
theorem strLen_lt {i : Nat} (hi : i < 11) : strLen.getD i 0 < 5 := co_dec (N := 11) (P := fun i => strLen.getD i 0 < 5) (by decide) hi
set_option maxRecDepth 100000 in
set_option maxHeartbeats 4000000 in
theorem c_J0_coder {Y : SYS} (hY : HasX Y) {i : Nat} (hi : i < 11) {μ : Mem} : KC Y yJ0_coder_7d493 cJ0_coder_7d493 1 (some .byte) 0 [.ref (sK Y i)] μ (some (.int 0)) μ := by
  refine KC.N RJ0 [(0, .ref (sK Y i))] (by decide) rfl (Nat.le_of_ble_eq_true rfl) rfl (fun G Γ ret => ?_)
  refine g_cstat Γ (pc := 0) dJ0_coder_7d493_0 hY kF_J0_38 ?_
  refine g_if_eq_f Γ (pc := 3) (tgt := 13) dJ0_coder_7d493_3 rfl (by decide) ?_
  refine g_aload_n Γ (pc := 6) 0 dJ0_coder_7d493_6 rfl rfl ?_
  refine g_scod Γ (pc := 7) dJ0_coder_7d493_7 hY hi kF_J0_15 ?_
  refine g_goto Γ (pc := 10) (tgt := 14) dJ0_coder_7d493_10 rfl ?_
  exact ret _ _ dJ0_coder_7d493_14 rfl
set_option maxRecDepth 100000 in
set_option maxHeartbeats 4000000 in
theorem c_J0_lat {Y : SYS} (hY : HasX Y) {i : Nat} (hi : i < 11) {μ : Mem} : KC Y yJ0_isLatin1_aae02 cJ0_isLatin1_aae02 1 (some .boolean) 0 [.ref (sK Y i)] μ (some (.int 1)) μ := by
  refine KC.Z RJ0 [(0, .ref (sK Y i))] (by decide) rfl (Nat.le_of_ble_eq_true rfl) rfl (fun G Γ ret => ?_)
  refine g_cstat Γ (pc := 0) dJ0_isLatin1_aae02_0 hY kF_J0_38 ?_
  refine g_if_eq_f Γ (pc := 3) (tgt := 17) dJ0_isLatin1_aae02_3 rfl (by decide) ?_
  refine g_aload_n Γ (pc := 6) 0 dJ0_isLatin1_aae02_6 rfl rfl ?_
  refine g_scod Γ (pc := 7) dJ0_isLatin1_aae02_7 hY hi kF_J0_15 ?_
  refine g_if_ne_f Γ (pc := 10) (tgt := 17) dJ0_isLatin1_aae02_10 rfl rfl ?_
  refine g_iconst Γ (pc := 13) (v := 1) dJ0_isLatin1_aae02_13 rfl ?_
  refine g_goto Γ (pc := 14) (tgt := 18) dJ0_isLatin1_aae02_14 rfl ?_
  exact rZkr ret dJ0_isLatin1_aae02_18 (Or.inr rfl) rfl
set_option maxRecDepth 100000 in
set_option maxHeartbeats 4000000 in
theorem c_J0_len {Y : SYS} (hY : HasX Y) {i : Nat} (hi : i < 11) {μ : Mem} : KC Y yJ0_length_8abf5 cJ0_length_8abf5 1 (some .int) 1 [.ref (sK Y i)] μ (some (.int (nI (strLen.getD i 0)))) μ := by
  refine KC.I RJ0 [(0, .ref (sK Y i))] (by decide) rfl (Nat.le_of_ble_eq_true rfl) rfl (fun G Γ ret => ?_)
  refine g_aload_n Γ (pc := 0) 0 dJ0_length_8abf5_0 rfl rfl ?_
  refine g_sval Γ (pc := 1) dJ0_length_8abf5_1 hY hi kF_J0_9 ?_
  refine g_sal Γ (pc := 4) dJ0_length_8abf5_4 hY hi ?_
  refine g_aload_n Γ (pc := 5) 0 dJ0_length_8abf5_5 rfl rfl ?_
  refine g_callT Γ (pc := 6) (as := []) (st := [.int (nI (strLen.getD i 0))]) dJ0_length_8abf5_6 (c_J0_coder hY hi) hY hi rfl mi_J0_coder_7d493 mv_J0_coder_7d493 kM_J0_335 rfl ⟨Nat.le_of_ble_eq_true rfl, Nat.le_of_ble_eq_true rfl⟩ rfl (Nat.le_of_ble_eq_true rfl) ?_
  refine g_ishr Γ (pc := 9) dJ0_length_8abf5_9 ?_
  exact rIr ret dJ0_length_8abf5_10 (by rw [sc_shr0 (Nat.lt_trans (strLen_lt hi) (by decide))])
/-- charAt(k) of text i, k within it -/
def sChr (i k : Nat) : Int32 := ((sbyt i k &&& 255).toUInt32 % 65536).toInt32
set_option maxRecDepth 100000 in
set_option maxHeartbeats 4000000 in
theorem c_J1_chr {Y : SYS} (hY : HasX Y) {i : Nat} (hi : i < 11) {k : Nat} (hk : k < strLen.getD i 0) {μ : Mem} : KC Y yJ1_charAt_3b067 cJ1_charAt_3b067 2 (some .char) 2 [.ref (sK Y (11 + i)), .int (nI k)] μ (some (.int (sChr i k))) μ := by
  have h5 := strLen_lt hi
  refine KC.N RJ1 [(0, .ref (sK Y (11 + i))), (1, .int (nI k))] (by decide) rfl (Nat.le_of_ble_eq_true rfl) rfl (fun G Γ ret => ?_)
  refine g_iload_n Γ (pc := 0) 1 dJ1_charAt_3b067_0 rfl rfl ?_
  refine g_aload_n Γ (pc := 1) 0 dJ1_charAt_3b067_1 rfl rfl ?_
  refine g_sal Γ (pc := 2) dJ1_charAt_3b067_2 hY hi ?_
  refine g_callS Γ (pc := 3) (as := [.int (nI k), .int (nI (strLen.getD i 0))]) (st := []) dJ1_charAt_3b067_3 (c_J0_chk hY (nI_pos (by omega)) (nI_lt hk (by omega))) mi_J0_checkIndex_df160 ms_J0_checkIndex_df160 kM_J1_9 rfl ⟨Nat.le_of_ble_eq_true rfl, Nat.le_of_ble_eq_true rfl⟩ rfl (Nat.le_of_ble_eq_true rfl) ?_
  show G (3 + 3) _ [] μ
  refine g_aload_n Γ (pc := 6) 0 dJ1_charAt_3b067_6 rfl rfl ?_
  refine g_iload_n Γ (pc := 7) 1 dJ1_charAt_3b067_7 rfl rfl ?_
  refine g_sbal Γ (pc := 8) (F := some) (r := sbyt i k) dJ1_charAt_3b067_8 hY hi ?_ (fun v hf => ?_)
  · unfold ldM
    rw [if_neg (by rw [nI_clamp (by omega)]; exact fun h => h.elim (nI_pos (by omega)) (fun h => by omega)), nI_clamp (by omega)]
    rfl
  · cases hf
    refine g_sipush Γ (pc := 9) (v := 255) dJ1_charAt_3b067_9 rfl ?_
    refine g_iand Γ (pc := 12) dJ1_charAt_3b067_12 ?_
    refine g_i2c Γ (pc := 13) dJ1_charAt_3b067_13 ?_
    exact ret _ _ dJ1_charAt_3b067_14 (pk_nc _)
set_option maxRecDepth 100000 in
set_option maxHeartbeats 4000000 in
theorem c_J0_chr {Y : SYS} (hY : HasX Y) {i : Nat} (hi : i < 11) {k : Nat} (hk : k < strLen.getD i 0) {μ : Mem} : KC Y yJ0_charAt_5068e cJ0_charAt_5068e 2 (some .char) 3 [.ref (sK Y i), .int (nI k)] μ (some (.int (sChr i k))) μ := by
  refine KC.N RJ0 [(0, .ref (sK Y i)), (1, .int (nI k))] (by decide) rfl (Nat.le_of_ble_eq_true rfl) rfl (fun G Γ ret => ?_)
  refine g_aload_n Γ (pc := 0) 0 dJ0_charAt_5068e_0 rfl rfl ?_
  refine g_callT Γ (pc := 1) (as := []) (st := []) dJ0_charAt_5068e_1 (c_J0_lat hY hi) hY hi rfl mi_J0_isLatin1_aae02 mv_J0_isLatin1_aae02 kM_J0_492 rfl ⟨Nat.le_of_ble_eq_true rfl, Nat.le_of_ble_eq_true rfl⟩ rfl (Nat.le_of_ble_eq_true rfl) ?_
  refine g_if_eq_f Γ (pc := 4) (tgt := 16) dJ0_charAt_5068e_4 rfl (by decide) ?_
  refine g_aload_n Γ (pc := 7) 0 dJ0_charAt_5068e_7 rfl rfl ?_
  refine g_sval Γ (pc := 8) dJ0_charAt_5068e_8 hY hi kF_J0_9 ?_
  refine g_iload_n Γ (pc := 11) 1 dJ0_charAt_5068e_11 rfl rfl ?_
  refine g_callSI Γ (pc := 12) (as := [.ref (sK Y (11 + i)), .int (nI k)]) (st := []) dJ0_charAt_5068e_12 (c_J1_chr hY hi hk) mi_J1_charAt_3b067 ms_J1_charAt_3b067 kM_J0_495 rfl ⟨Nat.le_of_ble_eq_true rfl, Nat.le_of_ble_eq_true rfl⟩ rfl (Nat.le_of_ble_eq_true rfl) ?_
  exact ret _ _ dJ0_charAt_5068e_15 (pk_nc _)
def chM (i : Nat) (x : Int32) : Option Int32 := if x < 0 ∨ strLen.getD i 0 ≤ x.toNatClampNeg then none else some (sChr i x.toNatClampNeg)
theorem c_chM {Y : SYS} (hY : HasX Y) {i : Nat} (hi : i < 11) {x v : Int32} {μ : Mem} (h : chM i x = some v) : KC Y yJ0_charAt_5068e cJ0_charAt_5068e 2 (some .char) 3 [.ref (sK Y i), .int x] μ (some (.int v)) μ := by
  have h5 := strLen_lt hi
  unfold chM at h
  by_cases hin : x < 0 ∨ strLen.getD i 0 ≤ x.toNatClampNeg
  · rw [if_pos hin] at h; cases h
  · rw [if_neg hin] at h; cases h
    obtain ⟨k, hk, rfl⟩ := vp_in_of (show vp_in x (strLen.getD i 0) from hin) (by omega)
    rw [nI_clamp (by omega)]
    exact c_J0_chr hY hi hk
/-- indexOf: the first place from k on whose byte is b, of n more -/
def ixF (i : Nat) (b : Int32) : Nat → Nat → Int32
  | 0, _ => -1
  | n + 1, k => if sbyt i k = b then nI k else ixF i b n (k + 1)
def sIx (i : Nat) (c : Int32) : Int32 := if c < 0 ∨ 255 < c then -1 else ixF i c.toInt8.toInt32 (strLen.getD i 0) 0
set_option maxRecDepth 100000 in
set_option maxHeartbeats 4000000 in
theorem c_J1_ixc {Y : SYS} (hY : HasX Y) {i : Nat} (hi : i < 11) {c : Int32} {μ : Mem} : KC Y yJ1_indexOfChar_4cfef cJ1_indexOfChar_4cfef 6 (some .int) 0 [.ref (sK Y (11 + i)), .int c, .int 0, .int (nI (strLen.getD i 0))] μ (some (.int (ixF i c.toInt8.toInt32 (strLen.getD i 0) 0))) μ := by
  have h5 := strLen_lt hi
  refine KC.I RJ1 [(0, .ref (sK Y (11 + i))), (1, .int c), (2, .int 0), (3, .int (nI (strLen.getD i 0)))] (by decide) rfl (Nat.le_of_ble_eq_true rfl) rfl (fun G Γ ret => ?_)
  refine g_iload_n Γ (pc := 0) 1 dJ1_indexOfChar_4cfef_0 rfl rfl ?_
  refine g_i2b Γ (pc := 1) dJ1_indexOfChar_4cfef_1 ?_
  generalize c.toInt8.toInt32 = b at ret ⊢
  refine g_istore Γ (pc := 2) (lv' := [(4, .int b), (0, .ref (sK Y (11 + i))), (1, .int c), (2, .int 0), (3, .int (nI (strLen.getD i 0)))]) dJ1_indexOfChar_4cfef_2 (by decide) rfl ?_
  refine g_iload_n Γ (pc := 4) 3 dJ1_indexOfChar_4cfef_4 rfl rfl ?_
  refine g_istore Γ (pc := 5) (lv' := [(5, .int 0), (4, .int b), (0, .ref (sK Y (11 + i))), (1, .int c), (2, .int 0), (3, .int (nI (strLen.getD i 0)))]) dJ1_indexOfChar_4cfef_5 (by decide) rfl ?_
  refine g_sub Γ (lv' := [(0, .ref (sK Y (11 + i))), (3, .int (nI (strLen.getD i 0))), (4, .int b), (5, .int (nI 0))]) [2, 5, 1, 0] rfl ?_
  have key : ∀ (n k : Nat), n + k = strLen.getD i 0 → ixF i b n k = ixF i b (strLen.getD i 0) 0 → G 7 [(0, .ref (sK Y (11 + i))), (3, .int (nI (strLen.getD i 0))), (4, .int b), (5, .int (nI k))] [] μ := by
    intro n
    induction n with
    | zero =>
      intro k hk he
      refine g_iload Γ (pc := 7) 3 dJ1_indexOfChar_4cfef_7 rfl ?_
      refine g_iload_n Γ (pc := 9) 1 dJ1_indexOfChar_4cfef_9 rfl rfl ?_
      refine g_icmp_ge_t Γ (pc := 10) (tgt := 31) dJ1_indexOfChar_4cfef_10 rfl (nI_le (by omega) (by omega)) ?_
      refine g_iconst Γ (pc := 31) (v := -1) dJ1_indexOfChar_4cfef_31 rfl ?_
      rw [← he] at ret
      exact ret _ _ dJ1_indexOfChar_4cfef_32
    | succ n ih =>
      intro k hk he
      refine g_iload Γ (pc := 7) 3 dJ1_indexOfChar_4cfef_7 rfl ?_
      refine g_iload_n Γ (pc := 9) 1 dJ1_indexOfChar_4cfef_9 rfl rfl ?_
      refine g_icmp_ge_f Γ (pc := 10) (tgt := 31) dJ1_indexOfChar_4cfef_10 rfl (nI_ge (by omega) (by omega)) ?_
      refine g_aload_n Γ (pc := 13) 0 dJ1_indexOfChar_4cfef_13 rfl rfl ?_
      refine g_iload Γ (pc := 14) 3 dJ1_indexOfChar_4cfef_14 rfl ?_
      refine g_sbal Γ (pc := 16) (F := some) (r := sbyt i k) dJ1_indexOfChar_4cfef_16 hY hi ?_ (fun v hf => ?_)
      · unfold ldM
        rw [if_neg (by rw [nI_clamp (by omega)]; exact fun h => h.elim (nI_pos (by omega)) (fun h => by omega)), nI_clamp (by omega)]
        rfl
      · cases hf
        refine g_iload Γ (pc := 17) 2 dJ1_indexOfChar_4cfef_17 rfl ?_
        rw [ixF] at he
        by_cases hc : sbyt i k = b
        · rw [if_pos hc] at he
          refine g_icmp_ne_f Γ (pc := 19) (tgt := 25) dJ1_indexOfChar_4cfef_19 rfl hc ?_
          refine g_iload Γ (pc := 22) 3 dJ1_indexOfChar_4cfef_22 rfl ?_
          rw [← he] at ret
          exact ret _ _ dJ1_indexOfChar_4cfef_24
        · rw [if_neg hc] at he
          refine g_icmp_ne_t Γ (pc := 19) (tgt := 25) dJ1_indexOfChar_4cfef_19 rfl hc ?_
          refine g_iinc Γ (pc := 25) (v := nI (k + 1)) (lv' := [(5, .int (nI (k + 1))), (0, .ref (sK Y (11 + i))), (3, .int (nI (strLen.getD i 0))), (4, .int b)]) 3 dJ1_indexOfChar_4cfef_25 rfl (nI_1 k) (by decide) rfl ?_
          refine g_goto Γ (pc := 28) (tgt := 7) dJ1_indexOfChar_4cfef_28 rfl ?_
          refine g_sub Γ [1, 2, 3, 0] rfl ?_
          exact ih (k + 1) (by omega) he
  exact key (strLen.getD i 0) 0 rfl rfl
set_option maxRecDepth 100000 in
set_option maxHeartbeats 4000000 in
theorem c_J1_enc {Y : SYS} {c : Int32} {μ : Mem} : KC Y yJ1_canEncode_9a6ad cJ1_canEncode_9a6ad 1 (some .boolean) 0 [.int c] μ (some (.int (if c < 0 ∨ 255 < c then 0 else 1))) μ := by
  refine KC.Z RJ1 [(0, .int c)] (by decide) rfl (Nat.le_of_ble_eq_true rfl) rfl (fun G Γ ret => ?_)
  refine g_iload_n Γ (pc := 0) 0 dJ1_canEncode_9a6ad_0 rfl rfl ?_
  by_cases h0 : c < 0
  · refine g_if_lt_t Γ (pc := 1) (tgt := 15) dJ1_canEncode_9a6ad_1 rfl h0 ?_
    refine g_iconst Γ (pc := 15) (v := 0) dJ1_canEncode_9a6ad_15 rfl ?_
    exact rZkr ret dJ1_canEncode_9a6ad_16 (Or.inl rfl) (by rw [if_pos (Or.inl h0)])
  · refine g_if_lt_f Γ (pc := 1) (tgt := 15) dJ1_canEncode_9a6ad_1 rfl h0 ?_
    refine g_iload_n Γ (pc := 4) 0 dJ1_canEncode_9a6ad_4 rfl rfl ?_
    refine g_sipush Γ (pc := 5) (v := 255) dJ1_canEncode_9a6ad_5 rfl ?_
    by_cases h1 : 255 < c
    · refine g_icmp_gt_t Γ (pc := 8) (tgt := 15) dJ1_canEncode_9a6ad_8 rfl h1 ?_
      refine g_iconst Γ (pc := 15) (v := 0) dJ1_canEncode_9a6ad_15 rfl ?_
      exact rZkr ret dJ1_canEncode_9a6ad_16 (Or.inl rfl) (by rw [if_pos (Or.inr h1)])
    · refine g_icmp_gt_f Γ (pc := 8) (tgt := 15) dJ1_canEncode_9a6ad_8 rfl h1 ?_
      refine g_iconst Γ (pc := 11) (v := 1) dJ1_canEncode_9a6ad_11 rfl ?_
      refine g_goto Γ (pc := 12) (tgt := 16) dJ1_canEncode_9a6ad_12 rfl ?_
      exact rZkr ret dJ1_canEncode_9a6ad_16 (Or.inr rfl) (by rw [if_neg (fun h => h.elim h0 h1)])
set_option maxRecDepth 100000 in
set_option maxHeartbeats 4000000 in
theorem c_J1_ix {Y : SYS} (hY : HasX Y) {i : Nat} (hi : i < 11) {c : Int32} {μ : Mem} : KC Y yJ1_indexOf_4cfef cJ1_indexOf_4cfef 4 (some .int) 1 [.ref (sK Y (11 + i)), .int c, .int 0, .int (nI (strLen.getD i 0))] μ (some (.int (sIx i c))) μ := by
  have h5 := strLen_lt hi
  have hp : 0 < strLen.getD i 0 := co_dec (N := 11) (P := fun i => 0 < strLen.getD i 0) (by decide) hi
  refine KC.I RJ1 [(0, .ref (sK Y (11 + i))), (1, .int c), (2, .int 0), (3, .int (nI (strLen.getD i 0)))] (by decide) rfl (Nat.le_of_ble_eq_true rfl) rfl (fun G Γ ret => ?_)
  unfold sIx at ret
  refine g_iload_n Γ (pc := 0) 1 dJ1_indexOf_4cfef_0 rfl rfl ?_
  refine g_callSI Γ (pc := 1) (as := [.int c]) (st := []) dJ1_indexOf_4cfef_1 c_J1_enc mi_J1_canEncode_9a6ad ms_J1_canEncode_9a6ad kM_J1_88 rfl ⟨Nat.le_of_ble_eq_true rfl, Nat.le_of_ble_eq_true rfl⟩ rfl (Nat.le_of_ble_eq_true rfl) ?_
  by_cases h0 : c < 0 ∨ 255 < c
  · rw [if_pos h0] at ret ⊢
    refine g_if_ne_f Γ (pc := 4) (tgt := 9) dJ1_indexOf_4cfef_4 rfl rfl ?_
    refine g_iconst Γ (pc := 7) (v := -1) dJ1_indexOf_4cfef_7 rfl ?_
    exact ret _ _ dJ1_indexOf_4cfef_8
  · rw [if_neg h0] at ret ⊢
    refine g_if_ne_t Γ (pc := 4) (tgt := 9) dJ1_indexOf_4cfef_4 rfl (by decide) ?_
    refine g_iload_n Γ (pc := 9) 2 dJ1_indexOf_4cfef_9 rfl rfl ?_
    refine g_iconst Γ (pc := 10) (v := 0) dJ1_indexOf_4cfef_10 rfl ?_
    refine g_max Γ (pc := 11) dJ1_indexOf_4cfef_11 kM_J1_92 kS_Math_max kI_J9 kC_Math_max (Nat.le_of_ble_eq_true rfl) (Nat.le_of_ble_eq_true rfl) ?_
    rw [if_neg (by decide)]
    refine g_istore_n Γ (pc := 14) (lv' := [(2, .int 0), (0, .ref (sK Y (11 + i))), (1, .int c), (3, .int (nI (strLen.getD i 0)))]) dJ1_indexOf_4cfef_14 rfl (by decide) rfl ?_
    refine g_iload_n Γ (pc := 15) 3 dJ1_indexOf_4cfef_15 rfl rfl ?_
    refine g_aload_n Γ (pc := 16) 1 dJ1_indexOf_4cfef_16 rfl rfl ?_
    refine g_sal Γ (pc := 17) dJ1_indexOf_4cfef_17 hY hi ?_
    refine g_min Γ (pc := 18) dJ1_indexOf_4cfef_18 kM_J1_38 kS_Math_min kI_J9 kC_Math_min (Nat.le_of_ble_eq_true rfl) (Nat.le_of_ble_eq_true rfl) ?_
    rw [ite_self]
    refine g_istore_n Γ (pc := 21) (lv' := [(3, .int (nI (strLen.getD i 0))), (2, .int 0), (0, .ref (sK Y (11 + i))), (1, .int c)]) dJ1_indexOf_4cfef_21 rfl (by decide) rfl ?_
    refine g_iload_n Γ (pc := 22) 1 dJ1_indexOf_4cfef_22 rfl rfl ?_
    refine g_iload_n Γ (pc := 23) 0 dJ1_indexOf_4cfef_23 rfl rfl ?_
    refine g_icmp_lt_t Γ (pc := 24) (tgt := 29) dJ1_indexOf_4cfef_24 rfl (show nI 0 < nI (strLen.getD i 0) from nI_lt hp (by omega)) ?_
    refine g_aload_n Γ (pc := 29) 2 dJ1_indexOf_4cfef_29 rfl rfl ?_
    refine g_iload_n Γ (pc := 30) 3 dJ1_indexOf_4cfef_30 rfl rfl ?_
    refine g_iload_n Γ (pc := 31) 1 dJ1_indexOf_4cfef_31 rfl rfl ?_
    refine g_iload_n Γ (pc := 32) 0 dJ1_indexOf_4cfef_32 rfl rfl ?_
    refine g_callSI Γ (pc := 33) (as := [.ref (sK Y (11 + i)), .int c, .int 0, .int (nI (strLen.getD i 0))]) (st := []) dJ1_indexOf_4cfef_33 (c_J1_ixc hY hi) mi_J1_indexOfChar_4cfef ms_J1_indexOfChar_4cfef kM_J1_95 rfl ⟨Nat.le_of_ble_eq_true rfl, Nat.le_of_ble_eq_true rfl⟩ rfl (Nat.le_of_ble_eq_true rfl) ?_
    exact ret _ _ dJ1_indexOf_4cfef_36
set_option maxRecDepth 100000 in
set_option maxHeartbeats 4000000 in
theorem c_J0_ix2 {Y : SYS} (hY : HasX Y) {i : Nat} (hi : i < 11) {c : Int32} {μ : Mem} : KC Y yJ0_indexOf_7cf53 cJ0_indexOf_7cf53 3 (some .int) 2 [.ref (sK Y i), .int c, .int 0] μ (some (.int (sIx i c))) μ := by
  refine KC.I RJ0 [(0, .ref (sK Y i)), (1, .int c), (2, .int 0)] (by decide) rfl (Nat.le_of_ble_eq_true rfl) rfl (fun G Γ ret => ?_)
  refine g_aload_n Γ (pc := 0) 0 dJ0_indexOf_7cf53_0 rfl rfl ?_
  refine g_callT Γ (pc := 1) (as := []) (st := []) dJ0_indexOf_7cf53_1 (c_J0_lat hY hi) hY hi rfl mi_J0_isLatin1_aae02 mv_J0_isLatin1_aae02 kM_J0_492 rfl ⟨Nat.le_of_ble_eq_true rfl, Nat.le_of_ble_eq_true rfl⟩ rfl (Nat.le_of_ble_eq_true rfl) ?_
  refine g_if_eq_f Γ (pc := 4) (tgt := 23) dJ0_indexOf_7cf53_4 rfl (by decide) ?_
  refine g_aload_n Γ (pc := 7) 0 dJ0_indexOf_7cf53_7 rfl rfl ?_
  refine g_sval Γ (pc := 8) dJ0_indexOf_7cf53_8 hY hi kF_J0_9 ?_
  refine g_iload_n Γ (pc := 11) 1 dJ0_indexOf_7cf53_11 rfl rfl ?_
  refine g_iload_n Γ (pc := 12) 2 dJ0_indexOf_7cf53_12 rfl rfl ?_
  refine g_aload_n Γ (pc := 13) 0 dJ0_indexOf_7cf53_13 rfl rfl ?_
  refine g_callT Γ (pc := 14) (as := []) (st := [.int 0, .int c, .ref (sK Y (11 + i))]) dJ0_indexOf_7cf53_14 (c_J0_len hY hi) hY hi rfl mi_J0_length_8abf5 mv_J0_length_8abf5 kM_J0_505 rfl ⟨Nat.le_of_ble_eq_true rfl, Nat.le_of_ble_eq_true rfl⟩ rfl (Nat.le_of_ble_eq_true rfl) ?_
  refine g_callSI Γ (pc := 17) (as := [.ref (sK Y (11 + i)), .int c, .int 0, .int (nI (strLen.getD i 0))]) (st := []) dJ0_indexOf_7cf53_17 (c_J1_ix hY hi) mi_J1_indexOf_4cfef ms_J1_indexOf_4cfef kM_J0_637 rfl ⟨Nat.le_of_ble_eq_true rfl, Nat.le_of_ble_eq_true rfl⟩ rfl (Nat.le_of_ble_eq_true rfl) ?_
  refine g_goto Γ (pc := 20) (tgt := 36) dJ0_indexOf_7cf53_20 rfl ?_
  exact ret _ _ dJ0_indexOf_7cf53_36
set_option maxRecDepth 100000 in
set_option maxHeartbeats 4000000 in
theorem c_J0_ix {Y : SYS} (hY : HasX Y) {i : Nat} (hi : i < 11) {c : Int32} {μ : Mem} : KC Y yJ0_indexOf_0f7a4 cJ0_indexOf_0f7a4 2 (some .int) 3 [.ref (sK Y i), .int c] μ (some (.int (sIx i c))) μ := by
  refine KC.I RJ0 [(0, .ref (sK Y i)), (1, .int c)] (by decide) rfl (Nat.le_of_ble_eq_true rfl) rfl (fun G Γ ret => ?_)
  refine g_aload_n Γ (pc := 0) 0 dJ0_indexOf_0f7a4_0 rfl rfl ?_
  refine g_iload_n Γ (pc := 1) 1 dJ0_indexOf_0f7a4_1 rfl rfl ?_
  refine g_iconst Γ (pc := 2) (v := 0) dJ0_indexOf_0f7a4_2 rfl ?_
  refine g_callT Γ (pc := 3) (as := [.int c, .int 0]) (st := []) dJ0_indexOf_0f7a4_3 (c_J0_ix2 hY hi) hY hi rfl mi_J0_indexOf_7cf53 mv_J0_indexOf_7cf53 kM_J0_633 rfl ⟨Nat.le_of_ble_eq_true rfl, Nat.le_of_ble_eq_true rfl⟩ rfl (Nat.le_of_ble_eq_true rfl) ?_
  exact ret _ _ dJ0_indexOf_0f7a4_6
