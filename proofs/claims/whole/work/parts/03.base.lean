/-! THE MEMORY PICTURE: a system is N cells at the addresses q; cell i holds the row (μ i) in the shape sh i; a judgement G pc locals stack μ stands for W at that point in any heap that holds μ -/
/-- every word that a method of ours may need: what the tables say, and lasts -/
def WL : List Cond := lw_tbl.filter goodWord
abbrev Mem : Type := Nat → Nat → Int32
def mrow (μ : Mem) (i : Nat) (f : Nat → Int32) : Mem := fun j => if j = i then f else μ j
def mset (μ : Mem) (i k : Nat) (x : Int32) : Mem := mrow μ i (upd (μ i) k x)
abbrev SYS : Type := va_G × (Nat → Nat) × (Nat → (Nat → Int32) → va_E) × Nat × List (ClassId × FieldType) × ((Nat → Prop) → State → Heap → Prop) × Launch × (Nat → Nat)
def sD (Y : SYS) : va_G := Y.1
def sq (Y : SYS) : Nat → Nat := Y.2.1
def sSh (Y : SYS) : Nat → (Nat → Int32) → va_E := Y.2.2.1
def sN (Y : SYS) : Nat := Y.2.2.2.1
def sT (Y : SYS) : List (ClassId × FieldType) := Y.2.2.2.2.1
def sX (Y : SYS) : (Nat → Prop) → State → Heap → Prop := Y.2.2.2.2.2.1
def sL (Y : SYS) : Launch := Y.2.2.2.2.2.2.1
def sK (Y : SYS) : Nat → Nat := Y.2.2.2.2.2.2.2
def wld (Y : SYS) (μ : Mem) : va_W := (List.range (sN Y)).map (fun i => (sq Y i, sSh Y i (μ i)))
theorem wld_get {Y : SYS} {μ : Mem} {i : Nat} (h : i < sN Y) : (wld Y μ)[i]? = some (sq Y i, sSh Y i (μ i)) := by
  unfold wld
  rw [List.getElem?_map, List.getElem?_range h]
  rfl
theorem wld_set {Y : SYS} {μ : Mem} {i : Nat} {f : Nat → Int32} (h : i < sN Y) : (wld Y μ).set i (sq Y i, sSh Y i f) = wld Y (mrow μ i f) := by
  apply List.ext_getElem?
  intro j
  by_cases hj : j < sN Y
  · rw [wld_get hj]
    by_cases e : i = j
    · subst e
      rw [List.getElem?_set_self (by unfold wld; simpa using h)]
      simp [mrow]
    · rw [List.getElem?_set_ne e, wld_get hj]
      simp [mrow, Ne.symm e]
  · rw [List.getElem?_eq_none (by unfold wld; simp; omega), List.getElem?_eq_none (by unfold wld; simp; omega)]
def FA (Y : SYS) (sz : Nat) : Nat → Prop := fun a => (∃ i, i < sN Y ∧ a = sq Y i) ∨ sz ≤ a
def QI (Y : SYS) (A : Nat → Prop) : Prop := (∀ i j, i < sN Y → j < sN Y → sq Y i = sq Y j → i = j) ∧ ∀ i, i < sN Y → A (sq Y i)
theorem wld_D {Y : SYS} {A : Nat → Prop} (h : QI Y A) (μ : Mem) : va_D A (wld Y μ) := by
  have key : ∀ (k : Nat) (x : Nat × va_E), (wld Y μ)[k]? = some x → k < sN Y ∧ x.1 = sq Y k := by
    intro k x hk
    by_cases hj : k < sN Y
    · rw [wld_get hj] at hk
      cases hk
      exact ⟨hj, rfl⟩
    · rw [List.getElem?_eq_none (by unfold wld; simp; omega)] at hk
      cases hk
  refine ⟨fun i j x y hi hj hxy => ?_, fun k x hk => ?_⟩
  · obtain ⟨a1, a2⟩ := key i x hi
    obtain ⟨b1, b2⟩ := key j y hj
    exact h.1 i j a1 b1 (by rw [← a2, ← b2]; exact hxy)
  · obtain ⟨a1, a2⟩ := key k x hk
    rw [a2]
    exact h.2 k a1
def XO (Y : SYS) : Prop := ∀ (A B : Nat → Prop) (s U : State) (H H1 : Heap), sX Y A s H → s.WarmedH U.vm → (∀ a, a < H.size → ¬ A a → H1[a]? = H[a]?) → (∀ a, B a → A a) → sX Y B U H1
def PreB (Y : SYS) (μ : Mem) (sz : Nat) (U : State) : Prop := U.heap.size = sz ∧ va_P (sD Y) vwCl (wld Y μ) U.heap ∧ va_K (sD Y) vwCl (sT Y) U ∧ QI Y (fun _ => True) ∧ XO Y ∧ sX Y (FA Y sz) U U.heap
def QG (Y : SYS) (o : Option Value) (m : Mem) (sz : Nat) : Array Value → State → Outcome → State → Prop := fun _ st oc t => (oc = .returned o ∧ va_P (sD Y) vwCl (wld Y m) t.heap) ∧ va_F (FA Y sz) st t
def RM (d : Nat) : Room := { frames := d, cells := 0, slots := 0, locals := 40 * d }
/-- a method's contract: from the memory μ it answers o and leaves m -/
def KC (Y : SYS) (y : MethodName) (cc : ByteArray) (n : Nat) (ret : Option FieldType) (d : Nat) (as : List Value) (μ : Mem) (o : Option Value) (m : Mem) : Prop :=
  ∀ sz : Nat, Met (sL Y) y (.code y cc n ret :: WL) (RM d) (va_Pc as (PreB Y μ sz)) (QG Y o m sz) 0 0 (FA Y sz)
abbrev GT : Type := Nat → List (Nat × Value) → List Value → Mem → Prop
def IsG (Y : SYS) (G : GT) (own : String) (cc : ByteArray) (nL : Nat) (R : Room) : Prop :=
  ∃ (p : Program) (e : Env) (s : State) (m : MethodId) (args : Array Value) (below : List Frame) (meth : Method) (c : Code) (cells slots : Nat) (Z : State → Prop) (A : Nat → Prop),
    (G = fun pc lv st μ => ∀ (H : Heap) (locs : List Loc) (ls : Array Slot), va_P (sD Y) vwCl (wld Y μ) H → va_S A s.heap H locs → lv_has ls nL lv → W p (sL Y) e R s m args below meth c H locs cells slots Z (F0 m pc ls st)) ∧
    p.tables.exec = Jvm.exec ∧ c.code = cc ∧ c.maxLocals = nL ∧ s.vm.findClass own = some m.cls ∧ (∀ w ∈ WL, w.before args s = true) ∧ va_K (sD Y) vwCl (sT Y) s ∧ QI Y A ∧ (∀ a, s.heap.size ≤ a → A a) ∧ XO Y ∧ sX Y A s s.heap ∧ cells ≤ R.cells ∧ slots ≤ R.slots
def RetI (G : GT) (cc : ByteArray) (x : Int32) (m : Mem) : Prop := ∀ pc lv, decode cc pc = .ok (.ireturn, 1) → G pc lv [.int x] m
def RetZ (G : GT) (cc : ByteArray) (x : Int32) (m : Mem) : Prop := ∀ pc lv, decode cc pc = .ok (.ireturn, 1) → (x = 0 ∨ x = 1) → G pc lv [.int x] m
def RetV (G : GT) (cc : ByteArray) (m : Mem) : Prop := ∀ pc lv, decode cc pc = .ok (.return_, 1) → G pc lv [] m
def RetA (G : GT) (cc : ByteArray) (a : Nat) (m : Mem) : Prop := ∀ pc lv, decode cc pc = .ok (.areturn, 1) → G pc lv [.ref a] m
def Obj (Y : SYS) (i ci : Nat) (fs : (Nat → Int32) → List Value) : Prop := i < sN Y ∧ ∀ r, sSh Y i r = .inr (ci, fs r)
def IArr (Y : SYS) (i n : Nat) : Prop := i < sN Y ∧ ∃ (cA : ClassId) (t0 : Nat), (sT Y)[t0]? = some (cA, .int) ∧ ∀ r, sSh Y i r = .inl (cA, n, .inl r)
def RArr (Y : SYS) (i n : Nat) (g : Nat → Nat) : Prop := i < sN Y ∧ ∃ (cA : ClassId) (t0 : Nat) (C : String), (sT Y)[t0]? = some (cA, .object C) ∧ ∀ r, sSh Y i r = .inl (cA, n, .inr (.inr (.inr (.inr (fun k => some (sq Y (g k)))))))
def FR (own : String) (index ci k : Nat) : Prop := ∃ (C : String) (T : u_T) (N : Nat), vwCl[ci]? = some (C, T, N) ∧ k < N ∧ (∀ w ∈ u_ws C T N, w ∈ WL) ∧ Cond.fieldLink own index (T k).1 (T k).2.1 (T k).2.2.1 ∈ WL
def FW (own : String) (index ci k : Nat) (ty : FieldType) : Prop := ∃ (C : String) (T : u_T) (N : Nat) (ty0 : Nat → FieldType), vwCl[ci]? = some (C, T, N) ∧ k < N ∧ (∀ w ∈ u_ws C T N, w ∈ WL) ∧ Cond.fieldLink own index (T k).1 (T k).2.1 (T k).2.2.1 ∈ WL ∧ (∀ k, k < N → parseFieldDescriptor (T k).2.2.1 = some (ty0 k)) ∧ (∀ a, a < N → ∀ b, b < N → a ≠ b → (T a).2.1 ≠ (T b).2.1) ∧ (T k).2.2.2 = false ∧ parseFieldDescriptor (T k).2.2.1 = some ty
def MI (y : MethodName) (cc : ByteArray) (n : Nat) (ret : Option FieldType) (k : Nat) : Prop := Cond.code y cc n ret ∈ WL ∧ Cond.initialized y.cls ∈ WL ∧ y.cls ≠ "java/lang/invoke/MethodHandle" ∧ y.cls ≠ "java/lang/invoke/VarHandle" ∧ (parseMethodDescriptor y.desc).map (fun d => d.parameters.length) = some k
def MV (y : MethodName) : Prop := Cond.instanceMethod y ∈ WL ∧ Cond.selects y.cls y y ∈ WL
def MS (y : MethodName) : Prop := Cond.static y ∈ WL
-- pure words: what an instruction asks for before it goes on
def bn1 {α ρ : Type} (o : Option α) (F : α → Option ρ) : Option ρ := match o with
  | none => none
  | some a => F a
def bn2 {ρ : Type} (o : Option (Int32 × Mem)) (F : Int32 → Mem → Option ρ) : Option ρ := match o with
  | none => none
  | some a => F a.1 a.2
def ldM (f : Nat → Int32) (n : Nat) (x : Int32) : Option Int32 := if x < 0 ∨ n ≤ x.toNatClampNeg then none else some (f x.toNatClampNeg)
def stM (μ : Mem) (i n : Nat) (x v : Int32) : Option Mem := if x < 0 ∨ n ≤ x.toNatClampNeg then none else some (mset μ i x.toNatClampNeg v)
def rdM (n : Nat) (x : Int32) : Option Nat := if x < 0 ∨ n ≤ x.toNatClampNeg then none else some x.toNatClampNeg
def dvM (x y : Int32) : Option Int32 := if y = 0 then none else some (x / y)
def rmM (x y : Int32) : Option Int32 := if y = 0 then none else some (x - x / y * y)
def cpM (μ : Mem) (i ni : Nat) (sp : Int32) (j nj : Nat) (dp n : Int32) : Option Mem := if sp < 0 ∨ dp < 0 ∨ n < 0 ∨ ni < sp.toNatClampNeg + n.toNatClampNeg ∨ nj < dp.toNatClampNeg + n.toNatClampNeg then none else some (mrow μ j (va_cpy (μ i) (μ j) sp.toNatClampNeg dp.toNatClampNeg n.toNatClampNeg))
def zM (x : Int32) : Option Int32 := if x = 0 ∨ x = 1 then some x else none
def lpF {V X : Type} (body : V → Option (V ⊕ X)) : Nat → V → Option X
  | 0, _ => none
  | n + 1, v => match body v with
    | none => none
    | some (.inl v') => lpF body n v'
    | some (.inr x) => some x
def cs2 {A B ρ : Type} (x : A ⊕ B) (f : A → Option ρ) (g : B → Option ρ) : Option ρ := match x with
  | .inl a => f a
  | .inr b => g b
theorem bn1_i {α ρ : Type} {o : Option α} {F : α → Option ρ} {r : ρ} (h : bn1 o F = some r) : ∃ a, o = some a ∧ F a = some r := by
  cases o with
  | none => cases h
  | some a => exact ⟨a, rfl, h⟩
theorem bn2_i {ρ : Type} {o : Option (Int32 × Mem)} {F : Int32 → Mem → Option ρ} {r : ρ} (h : bn2 o F = some r) : ∃ a m, o = some (a, m) ∧ F a m = some r := by
  cases o with
  | none => cases h
  | some a => exact ⟨a.1, a.2, rfl, h⟩
theorem ite_t {ρ : Type} {c : Prop} {inst : Decidable c} {A B : Option ρ} {r : ρ} (h : c) (hf : @ite _ c inst A B = some r) : A = some r := by rw [if_pos h] at hf; exact hf
theorem ite_f {ρ : Type} {c : Prop} {inst : Decidable c} {A B : Option ρ} {r : ρ} (h : ¬ c) (hf : @ite _ c inst A B = some r) : B = some r := by rw [if_neg h] at hf; exact hf
theorem lpF_i {V X : Type} {body : V → Option (V ⊕ X)} {P : V → Prop} {K : X → Prop} (hstep : ∀ (v : V) (z : V ⊕ X), body v = some z → (∀ v', z = .inl v' → P v') → (∀ x, z = .inr x → K x) → P v) : ∀ (n : Nat) (v : V) (x : X), lpF body n v = some x → K x → P v := by
  intro n
  induction n with
  | zero => intro v x h; cases h
  | succ n ih =>
    intro v x h hK
    cases hb : body v with
    | none => rw [lpF, hb] at h; cases h
    | some z =>
      rw [lpF, hb] at h
      refine hstep v z hb (fun v' e => ?_) (fun x' e => ?_)
      · subst e
        exact ih v' x h hK
      · subst e
        cases h
        exact hK
theorem wl_of {w : Cond} (h : w ∈ lw_tbl) (hg : goodWord w = true) : w ∈ WL := List.mem_filter.mpr ⟨h, hg⟩
theorem wl_gi {w : Cond} (h : w ∈ WL) : w ∈ WL ∧ ((w.onTables && w.keeps) = true ∨ ∃ ty, w = .arrayClass ty) := ⟨h, good_of_word (List.mem_filter.mp h).2⟩
theorem wl_code {y : MethodName} {cc : ByteArray} {n : Nat} {ret : Option FieldType} (h : Cond.code y cc n ret ∈ WL) : GoodIn WL (.code y cc n ret :: WL) := fun w hw => (List.mem_cons.mp hw).elim (fun e => e ▸ wl_gi h) wl_gi
theorem FA_sub {Y : SYS} {A : Nat → Prop} {n n2 : Nat} (hQ : QI Y A) (hA : ∀ a, n ≤ a → A a) (h : n ≤ n2) : ∀ q, FA Y n2 q → A q := fun q hq => hq.elim (fun ⟨i, hi, e⟩ => e ▸ hQ.2 i hi) (fun z => hA q (Nat.le_trans h z))
theorem QI.of {Y : SYS} {A B : Nat → Prop} (h : QI Y A) (hB : ∀ i, i < sN Y → B (sq Y i)) : QI Y B := ⟨h.1, hB⟩
section WB
variable {p : Program} {l : Launch} {e : Env} {R : Room} {s : State} {m : MethodId} {args : Array Value} {below : List Frame} {meth : Method} {c : Code} {H : Heap} {locs : List Loc} {cells slots : Nat} {Q : State → Prop}
variable {pc : Nat} {ls : Array Slot} {rest st0 : List Value} {a : Array Value} {A : Nat → Prop}
theorem w_back {Y : SYS} {o : Option Value} {m' : Mem} (hr : va_Run p l e R s m args below meth c H locs cells slots 0 0 (F0 m pc ls st0) rest (QG Y o m' H.size a) (FA Y H.size)) (hS : va_S A s.heap H locs) (hF : ∀ q, FA Y H.size q → A q)
    (kk : ∀ (H1 : Heap) (locs1 : List Loc), va_P (sD Y) vwCl (wld Y m') H1 → va_S A s.heap H1 locs1 → W p l e R s m args below meth c H1 locs1 cells slots Q (F0 m (pc + 3) ls (o.toList ++ rest))) : W p l e R s m args below meth c H locs cells slots Q (F0 m pc ls st0) := by
  intro T hT X
  obtain ⟨v, st₀, t, T', L, h0, X', hL, e1, e2, ⟨⟨hv, hp⟩, hz, hk⟩, st⟩ := hr T hT X
  cases hv
  rw [h0] at hz hk
  obtain ⟨t2, a1, b1⟩ := kk T'.heap (locs ++ L) (by rw [e1]; exact hp)
    ⟨Nat.le_trans hS.1 (by rw [e1]; exact hz), fun q h1 h2 => by rw [e1, hk q (Nat.lt_of_lt_of_le h1 hS.1) (fun z => h2 (hF q z))]; exact hS.2.1 q h1 h2, fun q hq => by
      rcases List.mem_append.mp hq with h | h
      · exact hS.2.2 q h
      · exact hF _ (hL q h)⟩ T' rfl X'
  exact ⟨t2, st t2 a1, b1⟩
theorem pre_blind {Y : SYS} {as : List Value} {μ : Mem} {sz : Nat} : FrameBlind (va_Pc as (PreB Y μ sz)) := by
  intro a U g mk q
  obtain ⟨q0, q1, q2, q3, q4, q5, q6⟩ := q
  exact ⟨q0, q1, q2, va_K.moved (u := U) (U := U.calling g mk a) (Vm.Alike.refl U.vm) q3, q4, q5, q5 _ _ U (U.calling g mk a) _ _ q6 (State.WarmedH.refl U) (fun _ _ _ => rfl) (fun _ h => h)⟩
theorem pre_at {Y : SYS} {μ : Mem} {as : List Value} (hP : va_P (sD Y) vwCl (wld Y μ) H) (hS : va_S A s.heap H locs) (hK : va_K (sD Y) vwCl (sT Y) s) (hQ : QI Y A) (hA : ∀ a, s.heap.size ≤ a → A a) (hXO : XO Y) (hX : sX Y A s s.heap) : ∀ U : State, U.heap = H → s.WarmedH U.vm → va_Pc as (PreB Y μ H.size) as.toArray U := by
  intro U hU hW
  refine ⟨rfl, by rw [hU], by rw [hU]; exact hP, va_K.moved hW.alike hK, hQ.of (fun _ _ => trivial), hXO, ?_⟩
  rw [hU]
  exact hXO A _ s U s.heap H hX hW hS.2.1 (FA_sub hQ hA hS.1)
end WB
section GR
variable {Y : SYS} {G : GT} {own : String} {cc : ByteArray} {nL : Nat} {R : Room} {pc : Nat} {lv lv' : List (Nat × Value)} {st rest : List Value} {μ : Mem}
theorem g_iconst (Γ : IsG Y G own cc nL R) {n : Int} {v : Int32} (hd : decode cc pc = .ok (.iconst n, 1))  (hv : Int32.ofInt n = v) (kk : G (pc + 1) lv (.int v :: st) μ) : G pc lv st μ := by
  obtain ⟨p, e, s, m, args, below, meth, c, cells, slots, Z, A, rfl, hx, hb, hml, hown, hts, hK, hQ, hA, hXO, hX, hcl, hsl⟩ := Γ
  intro H locs ls hP hS hl
  exact lv_iconst hx hb hd hv (kk H locs ls hP hS hl)
theorem g_bipush (Γ : IsG Y G own cc nL R) {n : Int} {v : Int32} (hd : decode cc pc = .ok (.bipush n, 2))  (hv : (Int8.ofInt n).toInt32 = v) (kk : G (pc + 2) lv (.int v :: st) μ) : G pc lv st μ := by
  obtain ⟨p, e, s, m, args, below, meth, c, cells, slots, Z, A, rfl, hx, hb, hml, hown, hts, hK, hQ, hA, hXO, hX, hcl, hsl⟩ := Γ
  intro H locs ls hP hS hl
  exact lv_bipush hx hb hd hv (kk H locs ls hP hS hl)
theorem g_sipush (Γ : IsG Y G own cc nL R) {n : Int} {v : Int32} (hd : decode cc pc = .ok (.sipush n, 3))  (hv : (Int16.ofInt n).toInt32 = v) (kk : G (pc + 3) lv (.int v :: st) μ) : G pc lv st μ := by
  obtain ⟨p, e, s, m, args, below, meth, c, cells, slots, Z, A, rfl, hx, hb, hml, hown, hts, hK, hQ, hA, hXO, hX, hcl, hsl⟩ := Γ
  intro H locs ls hP hS hl
  exact lv_sipush hx hb hd hv (kk H locs ls hP hS hl)
theorem g_lconst (Γ : IsG Y G own cc nL R) {n : Fin 2} {v : Int64} (hd : decode cc pc = .ok (.lconst n, 1))  (hv : Int64.ofNat (n : Nat) = v) (kk : G (pc + 1) lv (.long v :: st) μ) : G pc lv st μ := by
  obtain ⟨p, e, s, m, args, below, meth, c, cells, slots, Z, A, rfl, hx, hb, hml, hown, hts, hK, hQ, hA, hXO, hX, hcl, hsl⟩ := Γ
  intro H locs ls hP hS hl
  exact lv_lconst hx hb hd hv (kk H locs ls hP hS hl)
theorem g_ldc (Γ : IsG Y G own cc nL R) {index : Nat} {v : Int32} (hd : decode cc pc = .ok (.ldc index, 2))  (hw : Cond.constant own index v ∈ WL) (kk : G (pc + 2) lv (.int v :: st) μ) : G pc lv st μ := by
  obtain ⟨p, e, s, m, args, below, meth, c, cells, slots, Z, A, rfl, hx, hb, hml, hown, hts, hK, hQ, hA, hXO, hX, hcl, hsl⟩ := Γ
  intro H locs ls hP hS hl
  exact lv_ldc hx hb hown (hts _ hw) hd (kk H locs ls hP hS hl)
theorem g_ldcw (Γ : IsG Y G own cc nL R) {index : Nat} {v : Int32} (hd : decode cc pc = .ok (.ldc_w index, 3))  (hw : Cond.constant own index v ∈ WL) (kk : G (pc + 3) lv (.int v :: st) μ) : G pc lv st μ := by
  obtain ⟨p, e, s, m, args, below, meth, c, cells, slots, Z, A, rfl, hx, hb, hml, hown, hts, hK, hQ, hA, hXO, hX, hcl, hsl⟩ := Γ
  intro H locs ls hP hS hl
  exact lv_ldcw hx hb hown (hts _ hw) hd (kk H locs ls hP hS hl)
theorem g_ldc2 (Γ : IsG Y G own cc nL R) {index : Nat} {v : Int64} (hd : decode cc pc = .ok (.ldc2_w index, 3))  (hw : Cond.constantLong own index v ∈ WL) (kk : G (pc + 3) lv (.long v :: st) μ) : G pc lv st μ := by
  obtain ⟨p, e, s, m, args, below, meth, c, cells, slots, Z, A, rfl, hx, hb, hml, hown, hts, hK, hQ, hA, hXO, hX, hcl, hsl⟩ := Γ
  intro H locs ls hP hS hl
  exact lv_ldc2 hx hb hown (hts _ hw) hd (kk H locs ls hP hS hl)
theorem g_iload_n (Γ : IsG Y G own cc nL R) {k : Fin 4} {i : Nat} {x : Int32} (j : Nat) (hd : decode cc pc = .ok (.iload_n k, 1))  (hi : (k : Nat) = i) (hj : lv[j]? = some (i, .int x)) (kk : G (pc + 1) lv (.int x :: st) μ) : G pc lv st μ := by
  obtain ⟨p, e, s, m, args, below, meth, c, cells, slots, Z, A, rfl, hx, hb, hml, hown, hts, hK, hQ, hA, hXO, hX, hcl, hsl⟩ := Γ
  intro H locs ls hP hS hl
  exact lv_iload_n hx hb hd hi (lv_at hl j hj) (kk H locs ls hP hS hl)
theorem g_iload (Γ : IsG Y G own cc nL R) {i : Nat} {x : Int32} (j : Nat) (hd : decode cc pc = .ok (.iload i, 2))  (hj : lv[j]? = some (i, .int x)) (kk : G (pc + 2) lv (.int x :: st) μ) : G pc lv st μ := by
  obtain ⟨p, e, s, m, args, below, meth, c, cells, slots, Z, A, rfl, hx, hb, hml, hown, hts, hK, hQ, hA, hXO, hX, hcl, hsl⟩ := Γ
  intro H locs ls hP hS hl
  exact lv_iload hx hb hd (lv_at hl j hj) (kk H locs ls hP hS hl)
theorem g_lload_n (Γ : IsG Y G own cc nL R) {k : Fin 4} {i : Nat} {x : Int64} (j : Nat) (hd : decode cc pc = .ok (.lload_n k, 1))  (hi : (k : Nat) = i) (hj : lv[j]? = some (i, .long x)) (kk : G (pc + 1) lv (.long x :: st) μ) : G pc lv st μ := by
  obtain ⟨p, e, s, m, args, below, meth, c, cells, slots, Z, A, rfl, hx, hb, hml, hown, hts, hK, hQ, hA, hXO, hX, hcl, hsl⟩ := Γ
  intro H locs ls hP hS hl
  exact lv_lload_n hx hb hd hi (lv_at hl j hj) (kk H locs ls hP hS hl)
theorem g_lload (Γ : IsG Y G own cc nL R) {i : Nat} {x : Int64} (j : Nat) (hd : decode cc pc = .ok (.lload i, 2))  (hj : lv[j]? = some (i, .long x)) (kk : G (pc + 2) lv (.long x :: st) μ) : G pc lv st μ := by
  obtain ⟨p, e, s, m, args, below, meth, c, cells, slots, Z, A, rfl, hx, hb, hml, hown, hts, hK, hQ, hA, hXO, hX, hcl, hsl⟩ := Γ
  intro H locs ls hP hS hl
  exact lv_lload hx hb hd (lv_at hl j hj) (kk H locs ls hP hS hl)
theorem g_aload_n (Γ : IsG Y G own cc nL R) {k : Fin 4} {i : Nat} {x : Nat} (j : Nat) (hd : decode cc pc = .ok (.aload_n k, 1))  (hi : (k : Nat) = i) (hj : lv[j]? = some (i, .ref x)) (kk : G (pc + 1) lv (.ref x :: st) μ) : G pc lv st μ := by
  obtain ⟨p, e, s, m, args, below, meth, c, cells, slots, Z, A, rfl, hx, hb, hml, hown, hts, hK, hQ, hA, hXO, hX, hcl, hsl⟩ := Γ
  intro H locs ls hP hS hl
  exact lv_aload_n hx hb hd hi (lv_at hl j hj) (kk H locs ls hP hS hl)
theorem g_aload (Γ : IsG Y G own cc nL R) {i : Nat} {x : Nat} (j : Nat) (hd : decode cc pc = .ok (.aload i, 2))  (hj : lv[j]? = some (i, .ref x)) (kk : G (pc + 2) lv (.ref x :: st) μ) : G pc lv st μ := by
  obtain ⟨p, e, s, m, args, below, meth, c, cells, slots, Z, A, rfl, hx, hb, hml, hown, hts, hK, hQ, hA, hXO, hX, hcl, hsl⟩ := Γ
  intro H locs ls hP hS hl
  exact lv_aload hx hb hd (lv_at hl j hj) (kk H locs ls hP hS hl)
theorem g_istore_n (Γ : IsG Y G own cc nL R) {k : Fin 4} {i : Nat} {x : Int32} (hd : decode cc pc = .ok (.istore_n k, 1))  (hi : (k : Nat) = i) (hn : i < nL) (hlv : (i, Value.int x) :: lv.filter (fun q => !(q.1 == i) && !(q.1 + 1 == i && q.2.category == 2)) = lv') (kk : G (pc + 1) lv' (st) μ) : G pc lv (.int x :: st) μ := by
  obtain ⟨p, e, s, m, args, below, meth, c, cells, slots, Z, A, rfl, hx, hb, hml, hown, hts, hK, hQ, hA, hXO, hX, hcl, hsl⟩ := Γ
  intro H locs ls hP hS hl
  exact lv_istore_n hx hb hd hi hl hn hlv (fun ls hl => kk H locs ls hP hS hl)
theorem g_istore (Γ : IsG Y G own cc nL R) {i : Nat} {x : Int32} (hd : decode cc pc = .ok (.istore i, 2))  (hn : i < nL) (hlv : (i, Value.int x) :: lv.filter (fun q => !(q.1 == i) && !(q.1 + 1 == i && q.2.category == 2)) = lv') (kk : G (pc + 2) lv' (st) μ) : G pc lv (.int x :: st) μ := by
  obtain ⟨p, e, s, m, args, below, meth, c, cells, slots, Z, A, rfl, hx, hb, hml, hown, hts, hK, hQ, hA, hXO, hX, hcl, hsl⟩ := Γ
  intro H locs ls hP hS hl
  exact lv_istore hx hb hd hl hn hlv (fun ls hl => kk H locs ls hP hS hl)
theorem g_astore_n (Γ : IsG Y G own cc nL R) {k : Fin 4} {i : Nat} {x : Nat} (hd : decode cc pc = .ok (.astore_n k, 1))  (hi : (k : Nat) = i) (hn : i < nL) (hlv : (i, Value.ref x) :: lv.filter (fun q => !(q.1 == i) && !(q.1 + 1 == i && q.2.category == 2)) = lv') (kk : G (pc + 1) lv' (st) μ) : G pc lv (.ref x :: st) μ := by
  obtain ⟨p, e, s, m, args, below, meth, c, cells, slots, Z, A, rfl, hx, hb, hml, hown, hts, hK, hQ, hA, hXO, hX, hcl, hsl⟩ := Γ
  intro H locs ls hP hS hl
  exact lv_astore_n hx hb hd hi hl hn hlv (fun ls hl => kk H locs ls hP hS hl)
theorem g_astore (Γ : IsG Y G own cc nL R) {i : Nat} {x : Nat} (hd : decode cc pc = .ok (.astore i, 2))  (hn : i < nL) (hlv : (i, Value.ref x) :: lv.filter (fun q => !(q.1 == i) && !(q.1 + 1 == i && q.2.category == 2)) = lv') (kk : G (pc + 2) lv' (st) μ) : G pc lv (.ref x :: st) μ := by
  obtain ⟨p, e, s, m, args, below, meth, c, cells, slots, Z, A, rfl, hx, hb, hml, hown, hts, hK, hQ, hA, hXO, hX, hcl, hsl⟩ := Γ
  intro H locs ls hP hS hl
  exact lv_astore hx hb hd hl hn hlv (fun ls hl => kk H locs ls hP hS hl)
theorem g_iinc (Γ : IsG Y G own cc nL R) {i : Nat} {n : Int} {x v : Int32} (j : Nat) (hd : decode cc pc = .ok (.iinc i n, 3))  (hj : lv[j]? = some (i, .int x)) (hv : x + Int32.ofInt n = v) (hn : i < nL) (hlv : (i, Value.int v) :: lv.filter (fun q => !(q.1 == i) && !(q.1 + 1 == i && q.2.category == 2)) = lv') (kk : G (pc + 3) lv' (st) μ) : G pc lv st μ := by
  obtain ⟨p, e, s, m, args, below, meth, c, cells, slots, Z, A, rfl, hx, hb, hml, hown, hts, hK, hQ, hA, hXO, hX, hcl, hsl⟩ := Γ
  intro H locs ls hP hS hl
  exact lv_iinc hx hb hd hl hj hv hn hlv (fun ls hl => kk H locs ls hP hS hl)
theorem g_iadd (Γ : IsG Y G own cc nL R) {x y : Int32} (hd : decode cc pc = .ok (.iadd, 1))  (kk : G (pc + 1) lv (.int (x + y) :: st) μ) : G pc lv (.int y :: .int x :: st) μ := by
  obtain ⟨p, e, s, m, args, below, meth, c, cells, slots, Z, A, rfl, hx, hb, hml, hown, hts, hK, hQ, hA, hXO, hX, hcl, hsl⟩ := Γ
  intro H locs ls hP hS hl
  exact lv_iadd hx hb hd (kk H locs ls hP hS hl)
theorem g_isub (Γ : IsG Y G own cc nL R) {x y : Int32} (hd : decode cc pc = .ok (.isub, 1))  (kk : G (pc + 1) lv (.int (x - y) :: st) μ) : G pc lv (.int y :: .int x :: st) μ := by
  obtain ⟨p, e, s, m, args, below, meth, c, cells, slots, Z, A, rfl, hx, hb, hml, hown, hts, hK, hQ, hA, hXO, hX, hcl, hsl⟩ := Γ
  intro H locs ls hP hS hl
  exact lv_isub hx hb hd (kk H locs ls hP hS hl)
theorem g_imul (Γ : IsG Y G own cc nL R) {x y : Int32} (hd : decode cc pc = .ok (.imul, 1))  (kk : G (pc + 1) lv (.int (x * y) :: st) μ) : G pc lv (.int y :: .int x :: st) μ := by
  obtain ⟨p, e, s, m, args, below, meth, c, cells, slots, Z, A, rfl, hx, hb, hml, hown, hts, hK, hQ, hA, hXO, hX, hcl, hsl⟩ := Γ
  intro H locs ls hP hS hl
  exact lv_imul hx hb hd (kk H locs ls hP hS hl)
theorem g_iand (Γ : IsG Y G own cc nL R) {x y : Int32} (hd : decode cc pc = .ok (.iand, 1))  (kk : G (pc + 1) lv (.int (x &&& y) :: st) μ) : G pc lv (.int y :: .int x :: st) μ := by
  obtain ⟨p, e, s, m, args, below, meth, c, cells, slots, Z, A, rfl, hx, hb, hml, hown, hts, hK, hQ, hA, hXO, hX, hcl, hsl⟩ := Γ
  intro H locs ls hP hS hl
  exact lv_iand hx hb hd (kk H locs ls hP hS hl)
theorem g_ior (Γ : IsG Y G own cc nL R) {x y : Int32} (hd : decode cc pc = .ok (.ior, 1))  (kk : G (pc + 1) lv (.int (x ||| y) :: st) μ) : G pc lv (.int y :: .int x :: st) μ := by
  obtain ⟨p, e, s, m, args, below, meth, c, cells, slots, Z, A, rfl, hx, hb, hml, hown, hts, hK, hQ, hA, hXO, hX, hcl, hsl⟩ := Γ
  intro H locs ls hP hS hl
  exact lv_ior hx hb hd (kk H locs ls hP hS hl)
theorem g_ixor (Γ : IsG Y G own cc nL R) {x y : Int32} (hd : decode cc pc = .ok (.ixor, 1))  (kk : G (pc + 1) lv (.int (x ^^^ y) :: st) μ) : G pc lv (.int y :: .int x :: st) μ := by
  obtain ⟨p, e, s, m, args, below, meth, c, cells, slots, Z, A, rfl, hx, hb, hml, hown, hts, hK, hQ, hA, hXO, hX, hcl, hsl⟩ := Γ
  intro H locs ls hP hS hl
  exact lv_ixor hx hb hd (kk H locs ls hP hS hl)
theorem g_ishl (Γ : IsG Y G own cc nL R) {x y : Int32} (hd : decode cc pc = .ok (.ishl, 1))  (kk : G (pc + 1) lv (.int (x <<< (y &&& 31)) :: st) μ) : G pc lv (.int y :: .int x :: st) μ := by
  obtain ⟨p, e, s, m, args, below, meth, c, cells, slots, Z, A, rfl, hx, hb, hml, hown, hts, hK, hQ, hA, hXO, hX, hcl, hsl⟩ := Γ
  intro H locs ls hP hS hl
  exact lv_ishl hx hb hd (kk H locs ls hP hS hl)
theorem g_ishr (Γ : IsG Y G own cc nL R) {x y : Int32} (hd : decode cc pc = .ok (.ishr, 1))  (kk : G (pc + 1) lv (.int (x >>> (y &&& 31)) :: st) μ) : G pc lv (.int y :: .int x :: st) μ := by
  obtain ⟨p, e, s, m, args, below, meth, c, cells, slots, Z, A, rfl, hx, hb, hml, hown, hts, hK, hQ, hA, hXO, hX, hcl, hsl⟩ := Γ
  intro H locs ls hP hS hl
  exact lv_ishr hx hb hd (kk H locs ls hP hS hl)
theorem g_iushr (Γ : IsG Y G own cc nL R) {x y : Int32} (hd : decode cc pc = .ok (.iushr, 1))  (kk : G (pc + 1) lv (.int ((x.toUInt32 >>> (y.toUInt32 &&& Int32.toUInt32 31)).toInt32) :: st) μ) : G pc lv (.int y :: .int x :: st) μ := by
  obtain ⟨p, e, s, m, args, below, meth, c, cells, slots, Z, A, rfl, hx, hb, hml, hown, hts, hK, hQ, hA, hXO, hX, hcl, hsl⟩ := Γ
  intro H locs ls hP hS hl
  exact lv_iushr hx hb hd rfl (kk H locs ls hP hS hl)
theorem g_ineg (Γ : IsG Y G own cc nL R) {x : Int32} (hd : decode cc pc = .ok (.ineg, 1))  (kk : G (pc + 1) lv (.int (-x) :: st) μ) : G pc lv (.int x :: st) μ := by
  obtain ⟨p, e, s, m, args, below, meth, c, cells, slots, Z, A, rfl, hx, hb, hml, hown, hts, hK, hQ, hA, hXO, hX, hcl, hsl⟩ := Γ
  intro H locs ls hP hS hl
  exact lv_ineg hx hb hd (kk H locs ls hP hS hl)
theorem g_i2s (Γ : IsG Y G own cc nL R) {x : Int32} (hd : decode cc pc = .ok (.i2s, 1))  (kk : G (pc + 1) lv (.int (x.toInt16.toInt32) :: st) μ) : G pc lv (.int x :: st) μ := by
  obtain ⟨p, e, s, m, args, below, meth, c, cells, slots, Z, A, rfl, hx, hb, hml, hown, hts, hK, hQ, hA, hXO, hX, hcl, hsl⟩ := Γ
  intro H locs ls hP hS hl
  exact lv_i2s hx hb hd rfl (kk H locs ls hP hS hl)
theorem g_i2c (Γ : IsG Y G own cc nL R) {x : Int32} (hd : decode cc pc = .ok (.i2c, 1))  (kk : G (pc + 1) lv (.int ((x.toUInt32 % 65536).toInt32) :: st) μ) : G pc lv (.int x :: st) μ := by
  obtain ⟨p, e, s, m, args, below, meth, c, cells, slots, Z, A, rfl, hx, hb, hml, hown, hts, hK, hQ, hA, hXO, hX, hcl, hsl⟩ := Γ
  intro H locs ls hP hS hl
  exact lv_i2c hx hb hd rfl (kk H locs ls hP hS hl)
theorem g_i2l (Γ : IsG Y G own cc nL R) {x : Int32} (hd : decode cc pc = .ok (.i2l, 1))  (kk : G (pc + 1) lv (.long (x.toInt64) :: st) μ) : G pc lv (.int x :: st) μ := by
  obtain ⟨p, e, s, m, args, below, meth, c, cells, slots, Z, A, rfl, hx, hb, hml, hown, hts, hK, hQ, hA, hXO, hX, hcl, hsl⟩ := Γ
  intro H locs ls hP hS hl
  exact lv_i2l hx hb hd rfl (kk H locs ls hP hS hl)
theorem g_ladd (Γ : IsG Y G own cc nL R) {x y : Int64} (hd : decode cc pc = .ok (.ladd, 1))  (kk : G (pc + 1) lv (.long (x + y) :: st) μ) : G pc lv (.long y :: .long x :: st) μ := by
  obtain ⟨p, e, s, m, args, below, meth, c, cells, slots, Z, A, rfl, hx, hb, hml, hown, hts, hK, hQ, hA, hXO, hX, hcl, hsl⟩ := Γ
  intro H locs ls hP hS hl
  exact lv_ladd hx hb hd (kk H locs ls hP hS hl)
theorem g_lcmp (Γ : IsG Y G own cc nL R) {x y : Int64} (hd : decode cc pc = .ok (.lcmp, 1))  (kk : G (pc + 1) lv (.int (lg_cmp x y) :: st) μ) : G pc lv (.long y :: .long x :: st) μ := by
  obtain ⟨p, e, s, m, args, below, meth, c, cells, slots, Z, A, rfl, hx, hb, hml, hown, hts, hK, hQ, hA, hXO, hX, hcl, hsl⟩ := Γ
  intro H locs ls hP hS hl
  exact W.lcmp hx hb hd (kk H locs ls hP hS hl)
theorem g_idiv (Γ : IsG Y G own cc nL R) {ρ : Type} {x y : Int32} {F : Int32 → Option ρ} {r : ρ} (hd : decode cc pc = .ok (.idiv, 1))  (hf : bn1 (dvM x y) F = some r) (kk : ∀ v, F v = some r → G (pc + 1) lv (.int v :: st) μ) : G pc lv (.int y :: .int x :: st) μ := by
  obtain ⟨p, e, s, m, args, below, meth, c, cells, slots, Z, A, rfl, hx, hb, hml, hown, hts, hK, hQ, hA, hXO, hX, hcl, hsl⟩ := Γ
  intro H locs ls hP hS hl
  obtain ⟨v, h1, h2⟩ := bn1_i hf
  unfold dvM at h1
  by_cases hy : y = 0
  · rw [if_pos hy] at h1; cases h1
  · rw [if_neg hy] at h1; cases h1
    exact lv_idiv hx hb hd hy (kk _ h2 H locs ls hP hS hl)
theorem g_irem (Γ : IsG Y G own cc nL R) {ρ : Type} {x y : Int32} {F : Int32 → Option ρ} {r : ρ} (hd : decode cc pc = .ok (.irem, 1))  (hf : bn1 (rmM x y) F = some r) (kk : ∀ v, F v = some r → G (pc + 1) lv (.int v :: st) μ) : G pc lv (.int y :: .int x :: st) μ := by
  obtain ⟨p, e, s, m, args, below, meth, c, cells, slots, Z, A, rfl, hx, hb, hml, hown, hts, hK, hQ, hA, hXO, hX, hcl, hsl⟩ := Γ
  intro H locs ls hP hS hl
  obtain ⟨v, h1, h2⟩ := bn1_i hf
  unfold rmM at h1
  by_cases hy : y = 0
  · rw [if_pos hy] at h1; cases h1
  · rw [if_neg hy] at h1; cases h1
    exact lv_irem hx hb hd hy (kk _ h2 H locs ls hP hS hl)
theorem g_dup (Γ : IsG Y G own cc nL R) {v : Value} (hd : decode cc pc = .ok (.dup, 1))  (hv : v.category = 1) (kk : G (pc + 1) lv (v :: v :: st) μ) : G pc lv (v :: st) μ := by
  obtain ⟨p, e, s, m, args, below, meth, c, cells, slots, Z, A, rfl, hx, hb, hml, hown, hts, hK, hQ, hA, hXO, hX, hcl, hsl⟩ := Γ
  intro H locs ls hP hS hl
  exact lv_dup hx hb hd hv (kk H locs ls hP hS hl)
theorem g_pop (Γ : IsG Y G own cc nL R) {v : Value} (hd : decode cc pc = .ok (.pop, 1))  (hv : v.category = 1) (kk : G (pc + 1) lv (st) μ) : G pc lv (v :: st) μ := by
  obtain ⟨p, e, s, m, args, below, meth, c, cells, slots, Z, A, rfl, hx, hb, hml, hown, hts, hK, hQ, hA, hXO, hX, hcl, hsl⟩ := Γ
  intro H locs ls hP hS hl
  exact lv_pop hx hb hd hv (kk H locs ls hP hS hl)
theorem g_dup_x1 (Γ : IsG Y G own cc nL R) {v u : Value} (hd : decode cc pc = .ok (.dup_x1, 1))  (hv : v.category = 1) (hu : u.category = 1) (kk : G (pc + 1) lv (v :: u :: v :: st) μ) : G pc lv (v :: u :: st) μ := by
  obtain ⟨p, e, s, m, args, below, meth, c, cells, slots, Z, A, rfl, hx, hb, hml, hown, hts, hK, hQ, hA, hXO, hX, hcl, hsl⟩ := Γ
  intro H locs ls hP hS hl
  exact lv_dup_x1 hx hb hd hv hu (kk H locs ls hP hS hl)
theorem g_dup2 (Γ : IsG Y G own cc nL R) {v u : Value} (hd : decode cc pc = .ok (.dup2, 1))  (hv : v.category = 1) (hu : u.category = 1) (kk : G (pc + 1) lv (v :: u :: v :: u :: st) μ) : G pc lv (v :: u :: st) μ := by
  obtain ⟨p, e, s, m, args, below, meth, c, cells, slots, Z, A, rfl, hx, hb, hml, hown, hts, hK, hQ, hA, hXO, hX, hcl, hsl⟩ := Γ
  intro H locs ls hP hS hl
  exact lv_dup2_11 hx hb hd hv hu (kk H locs ls hP hS hl)
theorem g_icmp_eq (Γ : IsG Y G own cc nL R) {x y : Int32} {off : Int} {tgt : Nat} {ρ : Type} {A B : Option ρ} {r : ρ} {inst : Decidable (x = y)} (hd : decode cc pc = .ok (.if_icmp .eq off, 3))  (ht : (pc : Int) + off = (tgt : Int)) (hf : @ite _ (x = y) inst A B = some r) (kt : A = some r → G tgt lv st μ) (kf : B = some r → G (pc + 3) lv st μ) : G pc lv (.int y :: .int x :: st) μ := by
  obtain ⟨p, e, s, m, args, below, meth, c, cells, slots, Z, A, rfl, hx, hb, hml, hown, hts, hK, hQ, hA, hXO, hX, hcl, hsl⟩ := Γ
  intro H locs ls hP hS hl
  exact lv_icmp_eq hx hb hd ht (fun h => kt (ite_t h hf) H locs ls hP hS hl) (fun h => kf (ite_f h hf) H locs ls hP hS hl)
theorem g_if_eq (Γ : IsG Y G own cc nL R) {x : Int32} {off : Int} {tgt : Nat} {ρ : Type} {A B : Option ρ} {r : ρ} {inst : Decidable (x = 0)} (hd : decode cc pc = .ok (.ifCond .eq off, 3))  (ht : (pc : Int) + off = (tgt : Int)) (hf : @ite _ (x = 0) inst A B = some r) (kt : A = some r → G tgt lv st μ) (kf : B = some r → G (pc + 3) lv st μ) : G pc lv (.int x :: st) μ := by
  obtain ⟨p, e, s, m, args, below, meth, c, cells, slots, Z, A, rfl, hx, hb, hml, hown, hts, hK, hQ, hA, hXO, hX, hcl, hsl⟩ := Γ
  intro H locs ls hP hS hl
  exact lv_if_eq hx hb hd ht (fun h => kt (ite_t h hf) H locs ls hP hS hl) (fun h => kf (ite_f h hf) H locs ls hP hS hl)
theorem g_icmp_ne (Γ : IsG Y G own cc nL R) {x y : Int32} {off : Int} {tgt : Nat} {ρ : Type} {A B : Option ρ} {r : ρ} {inst : Decidable (x = y)} (hd : decode cc pc = .ok (.if_icmp .ne off, 3))  (ht : (pc : Int) + off = (tgt : Int)) (hf : @ite _ (x = y) inst A B = some r) (kt : B = some r → G tgt lv st μ) (kf : A = some r → G (pc + 3) lv st μ) : G pc lv (.int y :: .int x :: st) μ := by
  obtain ⟨p, e, s, m, args, below, meth, c, cells, slots, Z, A, rfl, hx, hb, hml, hown, hts, hK, hQ, hA, hXO, hX, hcl, hsl⟩ := Γ
  intro H locs ls hP hS hl
  exact lv_icmp_ne hx hb hd ht (fun h => kt (ite_f h hf) H locs ls hP hS hl) (fun h => kf (ite_t h hf) H locs ls hP hS hl)
theorem g_if_ne (Γ : IsG Y G own cc nL R) {x : Int32} {off : Int} {tgt : Nat} {ρ : Type} {A B : Option ρ} {r : ρ} {inst : Decidable (x = 0)} (hd : decode cc pc = .ok (.ifCond .ne off, 3))  (ht : (pc : Int) + off = (tgt : Int)) (hf : @ite _ (x = 0) inst A B = some r) (kt : B = some r → G tgt lv st μ) (kf : A = some r → G (pc + 3) lv st μ) : G pc lv (.int x :: st) μ := by
  obtain ⟨p, e, s, m, args, below, meth, c, cells, slots, Z, A, rfl, hx, hb, hml, hown, hts, hK, hQ, hA, hXO, hX, hcl, hsl⟩ := Γ
  intro H locs ls hP hS hl
  exact lv_if_ne hx hb hd ht (fun h => kt (ite_f h hf) H locs ls hP hS hl) (fun h => kf (ite_t h hf) H locs ls hP hS hl)
theorem g_icmp_lt (Γ : IsG Y G own cc nL R) {x y : Int32} {off : Int} {tgt : Nat} {ρ : Type} {A B : Option ρ} {r : ρ} {inst : Decidable (x < y)} (hd : decode cc pc = .ok (.if_icmp .lt off, 3))  (ht : (pc : Int) + off = (tgt : Int)) (hf : @ite _ (x < y) inst A B = some r) (kt : A = some r → G tgt lv st μ) (kf : B = some r → G (pc + 3) lv st μ) : G pc lv (.int y :: .int x :: st) μ := by
  obtain ⟨p, e, s, m, args, below, meth, c, cells, slots, Z, A, rfl, hx, hb, hml, hown, hts, hK, hQ, hA, hXO, hX, hcl, hsl⟩ := Γ
  intro H locs ls hP hS hl
  exact lv_icmp_lt hx hb hd ht (fun h => kt (ite_t h hf) H locs ls hP hS hl) (fun h => kf (ite_f h hf) H locs ls hP hS hl)
theorem g_if_lt (Γ : IsG Y G own cc nL R) {x : Int32} {off : Int} {tgt : Nat} {ρ : Type} {A B : Option ρ} {r : ρ} {inst : Decidable (x < 0)} (hd : decode cc pc = .ok (.ifCond .lt off, 3))  (ht : (pc : Int) + off = (tgt : Int)) (hf : @ite _ (x < 0) inst A B = some r) (kt : A = some r → G tgt lv st μ) (kf : B = some r → G (pc + 3) lv st μ) : G pc lv (.int x :: st) μ := by
  obtain ⟨p, e, s, m, args, below, meth, c, cells, slots, Z, A, rfl, hx, hb, hml, hown, hts, hK, hQ, hA, hXO, hX, hcl, hsl⟩ := Γ
  intro H locs ls hP hS hl
  exact lv_if_lt hx hb hd ht (fun h => kt (ite_t h hf) H locs ls hP hS hl) (fun h => kf (ite_f h hf) H locs ls hP hS hl)
theorem g_icmp_ge (Γ : IsG Y G own cc nL R) {x y : Int32} {off : Int} {tgt : Nat} {ρ : Type} {A B : Option ρ} {r : ρ} {inst : Decidable (y ≤ x)} (hd : decode cc pc = .ok (.if_icmp .ge off, 3))  (ht : (pc : Int) + off = (tgt : Int)) (hf : @ite _ (y ≤ x) inst A B = some r) (kt : A = some r → G tgt lv st μ) (kf : B = some r → G (pc + 3) lv st μ) : G pc lv (.int y :: .int x :: st) μ := by
  obtain ⟨p, e, s, m, args, below, meth, c, cells, slots, Z, A, rfl, hx, hb, hml, hown, hts, hK, hQ, hA, hXO, hX, hcl, hsl⟩ := Γ
  intro H locs ls hP hS hl
  exact lv_icmp_ge hx hb hd ht (fun h => kt (ite_t h hf) H locs ls hP hS hl) (fun h => kf (ite_f h hf) H locs ls hP hS hl)
theorem g_if_ge (Γ : IsG Y G own cc nL R) {x : Int32} {off : Int} {tgt : Nat} {ρ : Type} {A B : Option ρ} {r : ρ} {inst : Decidable (0 ≤ x)} (hd : decode cc pc = .ok (.ifCond .ge off, 3))  (ht : (pc : Int) + off = (tgt : Int)) (hf : @ite _ (0 ≤ x) inst A B = some r) (kt : A = some r → G tgt lv st μ) (kf : B = some r → G (pc + 3) lv st μ) : G pc lv (.int x :: st) μ := by
  obtain ⟨p, e, s, m, args, below, meth, c, cells, slots, Z, A, rfl, hx, hb, hml, hown, hts, hK, hQ, hA, hXO, hX, hcl, hsl⟩ := Γ
  intro H locs ls hP hS hl
  exact lv_if_ge hx hb hd ht (fun h => kt (ite_t h hf) H locs ls hP hS hl) (fun h => kf (ite_f h hf) H locs ls hP hS hl)
theorem g_icmp_gt (Γ : IsG Y G own cc nL R) {x y : Int32} {off : Int} {tgt : Nat} {ρ : Type} {A B : Option ρ} {r : ρ} {inst : Decidable (y < x)} (hd : decode cc pc = .ok (.if_icmp .gt off, 3))  (ht : (pc : Int) + off = (tgt : Int)) (hf : @ite _ (y < x) inst A B = some r) (kt : A = some r → G tgt lv st μ) (kf : B = some r → G (pc + 3) lv st μ) : G pc lv (.int y :: .int x :: st) μ := by
  obtain ⟨p, e, s, m, args, below, meth, c, cells, slots, Z, A, rfl, hx, hb, hml, hown, hts, hK, hQ, hA, hXO, hX, hcl, hsl⟩ := Γ
  intro H locs ls hP hS hl
  exact lv_icmp_gt hx hb hd ht (fun h => kt (ite_t h hf) H locs ls hP hS hl) (fun h => kf (ite_f h hf) H locs ls hP hS hl)
theorem g_if_gt (Γ : IsG Y G own cc nL R) {x : Int32} {off : Int} {tgt : Nat} {ρ : Type} {A B : Option ρ} {r : ρ} {inst : Decidable (0 < x)} (hd : decode cc pc = .ok (.ifCond .gt off, 3))  (ht : (pc : Int) + off = (tgt : Int)) (hf : @ite _ (0 < x) inst A B = some r) (kt : A = some r → G tgt lv st μ) (kf : B = some r → G (pc + 3) lv st μ) : G pc lv (.int x :: st) μ := by
  obtain ⟨p, e, s, m, args, below, meth, c, cells, slots, Z, A, rfl, hx, hb, hml, hown, hts, hK, hQ, hA, hXO, hX, hcl, hsl⟩ := Γ
  intro H locs ls hP hS hl
  exact lv_if_gt hx hb hd ht (fun h => kt (ite_t h hf) H locs ls hP hS hl) (fun h => kf (ite_f h hf) H locs ls hP hS hl)
theorem g_icmp_le (Γ : IsG Y G own cc nL R) {x y : Int32} {off : Int} {tgt : Nat} {ρ : Type} {A B : Option ρ} {r : ρ} {inst : Decidable (x ≤ y)} (hd : decode cc pc = .ok (.if_icmp .le off, 3))  (ht : (pc : Int) + off = (tgt : Int)) (hf : @ite _ (x ≤ y) inst A B = some r) (kt : A = some r → G tgt lv st μ) (kf : B = some r → G (pc + 3) lv st μ) : G pc lv (.int y :: .int x :: st) μ := by
  obtain ⟨p, e, s, m, args, below, meth, c, cells, slots, Z, A, rfl, hx, hb, hml, hown, hts, hK, hQ, hA, hXO, hX, hcl, hsl⟩ := Γ
  intro H locs ls hP hS hl
  exact lv_icmp_le hx hb hd ht (fun h => kt (ite_t h hf) H locs ls hP hS hl) (fun h => kf (ite_f h hf) H locs ls hP hS hl)
theorem g_if_le (Γ : IsG Y G own cc nL R) {x : Int32} {off : Int} {tgt : Nat} {ρ : Type} {A B : Option ρ} {r : ρ} {inst : Decidable (x ≤ 0)} (hd : decode cc pc = .ok (.ifCond .le off, 3))  (ht : (pc : Int) + off = (tgt : Int)) (hf : @ite _ (x ≤ 0) inst A B = some r) (kt : A = some r → G tgt lv st μ) (kf : B = some r → G (pc + 3) lv st μ) : G pc lv (.int x :: st) μ := by
  obtain ⟨p, e, s, m, args, below, meth, c, cells, slots, Z, A, rfl, hx, hb, hml, hown, hts, hK, hQ, hA, hXO, hX, hcl, hsl⟩ := Γ
  intro H locs ls hP hS hl
  exact lv_if_le hx hb hd ht (fun h => kt (ite_t h hf) H locs ls hP hS hl) (fun h => kf (ite_f h hf) H locs ls hP hS hl)
theorem g_goto (Γ : IsG Y G own cc nL R) {off : Int} {tgt : Nat} (hd : decode cc pc = .ok (.goto off, 3))  (ht : (pc : Int) + off = (tgt : Int)) (kk : G tgt lv st μ) : G pc lv st μ := by
  obtain ⟨p, e, s, m, args, below, meth, c, cells, slots, Z, A, rfl, hx, hb, hml, hown, hts, hK, hQ, hA, hXO, hX, hcl, hsl⟩ := Γ
  intro H locs ls hP hS hl
  exact lv_goto hx hb hd ht (kk H locs ls hP hS hl)
theorem g_icmp_eq_t (Γ : IsG Y G own cc nL R) {x y : Int32} {off : Int} {tgt : Nat} (hd : decode cc pc = .ok (.if_icmp .eq off, 3))  (ht : (pc : Int) + off = (tgt : Int)) (hc : x = y) (kk : G tgt lv st μ) : G pc lv (.int y :: .int x :: st) μ := by
  obtain ⟨p, e, s, m, args, below, meth, c, cells, slots, Z, A, rfl, hx, hb, hml, hown, hts, hK, hQ, hA, hXO, hX, hcl, hsl⟩ := Γ
  intro H locs ls hP hS hl
  exact lv_icmp_eq hx hb hd ht (fun _ => kk H locs ls hP hS hl) (fun h => absurd hc h)
theorem g_icmp_eq_f (Γ : IsG Y G own cc nL R) {x y : Int32} {off : Int} {tgt : Nat} (hd : decode cc pc = .ok (.if_icmp .eq off, 3))  (ht : (pc : Int) + off = (tgt : Int)) (hc : ¬ x = y) (kk : G (pc + 3) lv st μ) : G pc lv (.int y :: .int x :: st) μ := by
  obtain ⟨p, e, s, m, args, below, meth, c, cells, slots, Z, A, rfl, hx, hb, hml, hown, hts, hK, hQ, hA, hXO, hX, hcl, hsl⟩ := Γ
  intro H locs ls hP hS hl
  exact lv_icmp_eq hx hb hd ht (fun h => absurd h hc) (fun _ => kk H locs ls hP hS hl)
theorem g_if_eq_t (Γ : IsG Y G own cc nL R) {x : Int32} {off : Int} {tgt : Nat} (hd : decode cc pc = .ok (.ifCond .eq off, 3))  (ht : (pc : Int) + off = (tgt : Int)) (hc : x = 0) (kk : G tgt lv st μ) : G pc lv (.int x :: st) μ := by
  obtain ⟨p, e, s, m, args, below, meth, c, cells, slots, Z, A, rfl, hx, hb, hml, hown, hts, hK, hQ, hA, hXO, hX, hcl, hsl⟩ := Γ
  intro H locs ls hP hS hl
  exact lv_if_eq hx hb hd ht (fun _ => kk H locs ls hP hS hl) (fun h => absurd hc h)
theorem g_if_eq_f (Γ : IsG Y G own cc nL R) {x : Int32} {off : Int} {tgt : Nat} (hd : decode cc pc = .ok (.ifCond .eq off, 3))  (ht : (pc : Int) + off = (tgt : Int)) (hc : ¬ x = 0) (kk : G (pc + 3) lv st μ) : G pc lv (.int x :: st) μ := by
  obtain ⟨p, e, s, m, args, below, meth, c, cells, slots, Z, A, rfl, hx, hb, hml, hown, hts, hK, hQ, hA, hXO, hX, hcl, hsl⟩ := Γ
  intro H locs ls hP hS hl
  exact lv_if_eq hx hb hd ht (fun h => absurd h hc) (fun _ => kk H locs ls hP hS hl)
theorem g_icmp_ne_t (Γ : IsG Y G own cc nL R) {x y : Int32} {off : Int} {tgt : Nat} (hd : decode cc pc = .ok (.if_icmp .ne off, 3))  (ht : (pc : Int) + off = (tgt : Int)) (hc : ¬ x = y) (kk : G tgt lv st μ) : G pc lv (.int y :: .int x :: st) μ := by
  obtain ⟨p, e, s, m, args, below, meth, c, cells, slots, Z, A, rfl, hx, hb, hml, hown, hts, hK, hQ, hA, hXO, hX, hcl, hsl⟩ := Γ
  intro H locs ls hP hS hl
  exact lv_icmp_ne hx hb hd ht (fun _ => kk H locs ls hP hS hl) (fun h => absurd h hc)
theorem g_icmp_ne_f (Γ : IsG Y G own cc nL R) {x y : Int32} {off : Int} {tgt : Nat} (hd : decode cc pc = .ok (.if_icmp .ne off, 3))  (ht : (pc : Int) + off = (tgt : Int)) (hc : x = y) (kk : G (pc + 3) lv st μ) : G pc lv (.int y :: .int x :: st) μ := by
  obtain ⟨p, e, s, m, args, below, meth, c, cells, slots, Z, A, rfl, hx, hb, hml, hown, hts, hK, hQ, hA, hXO, hX, hcl, hsl⟩ := Γ
  intro H locs ls hP hS hl
  exact lv_icmp_ne hx hb hd ht (fun h => absurd hc h) (fun _ => kk H locs ls hP hS hl)
theorem g_if_ne_t (Γ : IsG Y G own cc nL R) {x : Int32} {off : Int} {tgt : Nat} (hd : decode cc pc = .ok (.ifCond .ne off, 3))  (ht : (pc : Int) + off = (tgt : Int)) (hc : ¬ x = 0) (kk : G tgt lv st μ) : G pc lv (.int x :: st) μ := by
  obtain ⟨p, e, s, m, args, below, meth, c, cells, slots, Z, A, rfl, hx, hb, hml, hown, hts, hK, hQ, hA, hXO, hX, hcl, hsl⟩ := Γ
  intro H locs ls hP hS hl
  exact lv_if_ne hx hb hd ht (fun _ => kk H locs ls hP hS hl) (fun h => absurd h hc)
theorem g_if_ne_f (Γ : IsG Y G own cc nL R) {x : Int32} {off : Int} {tgt : Nat} (hd : decode cc pc = .ok (.ifCond .ne off, 3))  (ht : (pc : Int) + off = (tgt : Int)) (hc : x = 0) (kk : G (pc + 3) lv st μ) : G pc lv (.int x :: st) μ := by
  obtain ⟨p, e, s, m, args, below, meth, c, cells, slots, Z, A, rfl, hx, hb, hml, hown, hts, hK, hQ, hA, hXO, hX, hcl, hsl⟩ := Γ
  intro H locs ls hP hS hl
  exact lv_if_ne hx hb hd ht (fun h => absurd hc h) (fun _ => kk H locs ls hP hS hl)
theorem g_icmp_lt_t (Γ : IsG Y G own cc nL R) {x y : Int32} {off : Int} {tgt : Nat} (hd : decode cc pc = .ok (.if_icmp .lt off, 3))  (ht : (pc : Int) + off = (tgt : Int)) (hc : x < y) (kk : G tgt lv st μ) : G pc lv (.int y :: .int x :: st) μ := by
  obtain ⟨p, e, s, m, args, below, meth, c, cells, slots, Z, A, rfl, hx, hb, hml, hown, hts, hK, hQ, hA, hXO, hX, hcl, hsl⟩ := Γ
  intro H locs ls hP hS hl
  exact lv_icmp_lt hx hb hd ht (fun _ => kk H locs ls hP hS hl) (fun h => absurd hc h)
theorem g_icmp_lt_f (Γ : IsG Y G own cc nL R) {x y : Int32} {off : Int} {tgt : Nat} (hd : decode cc pc = .ok (.if_icmp .lt off, 3))  (ht : (pc : Int) + off = (tgt : Int)) (hc : ¬ x < y) (kk : G (pc + 3) lv st μ) : G pc lv (.int y :: .int x :: st) μ := by
  obtain ⟨p, e, s, m, args, below, meth, c, cells, slots, Z, A, rfl, hx, hb, hml, hown, hts, hK, hQ, hA, hXO, hX, hcl, hsl⟩ := Γ
  intro H locs ls hP hS hl
  exact lv_icmp_lt hx hb hd ht (fun h => absurd h hc) (fun _ => kk H locs ls hP hS hl)
theorem g_if_lt_t (Γ : IsG Y G own cc nL R) {x : Int32} {off : Int} {tgt : Nat} (hd : decode cc pc = .ok (.ifCond .lt off, 3))  (ht : (pc : Int) + off = (tgt : Int)) (hc : x < 0) (kk : G tgt lv st μ) : G pc lv (.int x :: st) μ := by
  obtain ⟨p, e, s, m, args, below, meth, c, cells, slots, Z, A, rfl, hx, hb, hml, hown, hts, hK, hQ, hA, hXO, hX, hcl, hsl⟩ := Γ
  intro H locs ls hP hS hl
  exact lv_if_lt hx hb hd ht (fun _ => kk H locs ls hP hS hl) (fun h => absurd hc h)
theorem g_if_lt_f (Γ : IsG Y G own cc nL R) {x : Int32} {off : Int} {tgt : Nat} (hd : decode cc pc = .ok (.ifCond .lt off, 3))  (ht : (pc : Int) + off = (tgt : Int)) (hc : ¬ x < 0) (kk : G (pc + 3) lv st μ) : G pc lv (.int x :: st) μ := by
  obtain ⟨p, e, s, m, args, below, meth, c, cells, slots, Z, A, rfl, hx, hb, hml, hown, hts, hK, hQ, hA, hXO, hX, hcl, hsl⟩ := Γ
  intro H locs ls hP hS hl
  exact lv_if_lt hx hb hd ht (fun h => absurd h hc) (fun _ => kk H locs ls hP hS hl)
theorem g_icmp_ge_t (Γ : IsG Y G own cc nL R) {x y : Int32} {off : Int} {tgt : Nat} (hd : decode cc pc = .ok (.if_icmp .ge off, 3))  (ht : (pc : Int) + off = (tgt : Int)) (hc : y ≤ x) (kk : G tgt lv st μ) : G pc lv (.int y :: .int x :: st) μ := by
  obtain ⟨p, e, s, m, args, below, meth, c, cells, slots, Z, A, rfl, hx, hb, hml, hown, hts, hK, hQ, hA, hXO, hX, hcl, hsl⟩ := Γ
  intro H locs ls hP hS hl
  exact lv_icmp_ge hx hb hd ht (fun _ => kk H locs ls hP hS hl) (fun h => absurd hc h)
theorem g_icmp_ge_f (Γ : IsG Y G own cc nL R) {x y : Int32} {off : Int} {tgt : Nat} (hd : decode cc pc = .ok (.if_icmp .ge off, 3))  (ht : (pc : Int) + off = (tgt : Int)) (hc : ¬ y ≤ x) (kk : G (pc + 3) lv st μ) : G pc lv (.int y :: .int x :: st) μ := by
  obtain ⟨p, e, s, m, args, below, meth, c, cells, slots, Z, A, rfl, hx, hb, hml, hown, hts, hK, hQ, hA, hXO, hX, hcl, hsl⟩ := Γ
  intro H locs ls hP hS hl
  exact lv_icmp_ge hx hb hd ht (fun h => absurd h hc) (fun _ => kk H locs ls hP hS hl)
theorem g_if_ge_t (Γ : IsG Y G own cc nL R) {x : Int32} {off : Int} {tgt : Nat} (hd : decode cc pc = .ok (.ifCond .ge off, 3))  (ht : (pc : Int) + off = (tgt : Int)) (hc : 0 ≤ x) (kk : G tgt lv st μ) : G pc lv (.int x :: st) μ := by
  obtain ⟨p, e, s, m, args, below, meth, c, cells, slots, Z, A, rfl, hx, hb, hml, hown, hts, hK, hQ, hA, hXO, hX, hcl, hsl⟩ := Γ
  intro H locs ls hP hS hl
  exact lv_if_ge hx hb hd ht (fun _ => kk H locs ls hP hS hl) (fun h => absurd hc h)
theorem g_if_ge_f (Γ : IsG Y G own cc nL R) {x : Int32} {off : Int} {tgt : Nat} (hd : decode cc pc = .ok (.ifCond .ge off, 3))  (ht : (pc : Int) + off = (tgt : Int)) (hc : ¬ 0 ≤ x) (kk : G (pc + 3) lv st μ) : G pc lv (.int x :: st) μ := by
  obtain ⟨p, e, s, m, args, below, meth, c, cells, slots, Z, A, rfl, hx, hb, hml, hown, hts, hK, hQ, hA, hXO, hX, hcl, hsl⟩ := Γ
  intro H locs ls hP hS hl
  exact lv_if_ge hx hb hd ht (fun h => absurd h hc) (fun _ => kk H locs ls hP hS hl)
theorem g_icmp_gt_t (Γ : IsG Y G own cc nL R) {x y : Int32} {off : Int} {tgt : Nat} (hd : decode cc pc = .ok (.if_icmp .gt off, 3))  (ht : (pc : Int) + off = (tgt : Int)) (hc : y < x) (kk : G tgt lv st μ) : G pc lv (.int y :: .int x :: st) μ := by
  obtain ⟨p, e, s, m, args, below, meth, c, cells, slots, Z, A, rfl, hx, hb, hml, hown, hts, hK, hQ, hA, hXO, hX, hcl, hsl⟩ := Γ
  intro H locs ls hP hS hl
  exact lv_icmp_gt hx hb hd ht (fun _ => kk H locs ls hP hS hl) (fun h => absurd hc h)
theorem g_icmp_gt_f (Γ : IsG Y G own cc nL R) {x y : Int32} {off : Int} {tgt : Nat} (hd : decode cc pc = .ok (.if_icmp .gt off, 3))  (ht : (pc : Int) + off = (tgt : Int)) (hc : ¬ y < x) (kk : G (pc + 3) lv st μ) : G pc lv (.int y :: .int x :: st) μ := by
  obtain ⟨p, e, s, m, args, below, meth, c, cells, slots, Z, A, rfl, hx, hb, hml, hown, hts, hK, hQ, hA, hXO, hX, hcl, hsl⟩ := Γ
  intro H locs ls hP hS hl
  exact lv_icmp_gt hx hb hd ht (fun h => absurd h hc) (fun _ => kk H locs ls hP hS hl)
theorem g_if_gt_t (Γ : IsG Y G own cc nL R) {x : Int32} {off : Int} {tgt : Nat} (hd : decode cc pc = .ok (.ifCond .gt off, 3))  (ht : (pc : Int) + off = (tgt : Int)) (hc : 0 < x) (kk : G tgt lv st μ) : G pc lv (.int x :: st) μ := by
  obtain ⟨p, e, s, m, args, below, meth, c, cells, slots, Z, A, rfl, hx, hb, hml, hown, hts, hK, hQ, hA, hXO, hX, hcl, hsl⟩ := Γ
  intro H locs ls hP hS hl
  exact lv_if_gt hx hb hd ht (fun _ => kk H locs ls hP hS hl) (fun h => absurd hc h)
theorem g_if_gt_f (Γ : IsG Y G own cc nL R) {x : Int32} {off : Int} {tgt : Nat} (hd : decode cc pc = .ok (.ifCond .gt off, 3))  (ht : (pc : Int) + off = (tgt : Int)) (hc : ¬ 0 < x) (kk : G (pc + 3) lv st μ) : G pc lv (.int x :: st) μ := by
  obtain ⟨p, e, s, m, args, below, meth, c, cells, slots, Z, A, rfl, hx, hb, hml, hown, hts, hK, hQ, hA, hXO, hX, hcl, hsl⟩ := Γ
  intro H locs ls hP hS hl
  exact lv_if_gt hx hb hd ht (fun h => absurd h hc) (fun _ => kk H locs ls hP hS hl)
theorem g_icmp_le_t (Γ : IsG Y G own cc nL R) {x y : Int32} {off : Int} {tgt : Nat} (hd : decode cc pc = .ok (.if_icmp .le off, 3))  (ht : (pc : Int) + off = (tgt : Int)) (hc : x ≤ y) (kk : G tgt lv st μ) : G pc lv (.int y :: .int x :: st) μ := by
  obtain ⟨p, e, s, m, args, below, meth, c, cells, slots, Z, A, rfl, hx, hb, hml, hown, hts, hK, hQ, hA, hXO, hX, hcl, hsl⟩ := Γ
  intro H locs ls hP hS hl
  exact lv_icmp_le hx hb hd ht (fun _ => kk H locs ls hP hS hl) (fun h => absurd hc h)
theorem g_icmp_le_f (Γ : IsG Y G own cc nL R) {x y : Int32} {off : Int} {tgt : Nat} (hd : decode cc pc = .ok (.if_icmp .le off, 3))  (ht : (pc : Int) + off = (tgt : Int)) (hc : ¬ x ≤ y) (kk : G (pc + 3) lv st μ) : G pc lv (.int y :: .int x :: st) μ := by
  obtain ⟨p, e, s, m, args, below, meth, c, cells, slots, Z, A, rfl, hx, hb, hml, hown, hts, hK, hQ, hA, hXO, hX, hcl, hsl⟩ := Γ
  intro H locs ls hP hS hl
  exact lv_icmp_le hx hb hd ht (fun h => absurd h hc) (fun _ => kk H locs ls hP hS hl)
theorem g_if_le_t (Γ : IsG Y G own cc nL R) {x : Int32} {off : Int} {tgt : Nat} (hd : decode cc pc = .ok (.ifCond .le off, 3))  (ht : (pc : Int) + off = (tgt : Int)) (hc : x ≤ 0) (kk : G tgt lv st μ) : G pc lv (.int x :: st) μ := by
  obtain ⟨p, e, s, m, args, below, meth, c, cells, slots, Z, A, rfl, hx, hb, hml, hown, hts, hK, hQ, hA, hXO, hX, hcl, hsl⟩ := Γ
  intro H locs ls hP hS hl
  exact lv_if_le hx hb hd ht (fun _ => kk H locs ls hP hS hl) (fun h => absurd hc h)
theorem g_if_le_f (Γ : IsG Y G own cc nL R) {x : Int32} {off : Int} {tgt : Nat} (hd : decode cc pc = .ok (.ifCond .le off, 3))  (ht : (pc : Int) + off = (tgt : Int)) (hc : ¬ x ≤ 0) (kk : G (pc + 3) lv st μ) : G pc lv (.int x :: st) μ := by
  obtain ⟨p, e, s, m, args, below, meth, c, cells, slots, Z, A, rfl, hx, hb, hml, hown, hts, hK, hQ, hA, hXO, hX, hcl, hsl⟩ := Γ
  intro H locs ls hP hS hl
  exact lv_if_le hx hb hd ht (fun h => absurd h hc) (fun _ => kk H locs ls hP hS hl)
theorem g_table (Γ : IsG Y G own cc nL R) {dflt lo hi : Int} {offs : Array Int} {len : Nat} {x : Int32} (hd : decode cc pc = .ok (.tableswitch dflt lo hi offs, len))  (kd : (x.toInt < lo ∨ hi < x.toInt) → ∀ tgt : Nat, (pc : Int) + dflt = (tgt : Int) → G tgt lv st μ) (kk : ∀ (off : Int) (tgt : Nat), ¬ x.toInt < lo → ¬ hi < x.toInt → offs[(x.toInt - lo).toNat]? = some off → (pc : Int) + off = (tgt : Int) → G tgt lv st μ) (tg : Nat) (ht : (pc : Int) + dflt = (tg : Int)) (hof : ∀ i : Nat, i < offs.size → ∃ (off : Int) (tgt : Nat), offs[i]? = some off ∧ (pc : Int) + off = (tgt : Int)) (hsz : offs.size = (hi - lo + 1).toNat) : G pc lv (.int x :: st) μ := by
  obtain ⟨p, e, s, m, args, below, meth, c, cells, slots, Z, A, rfl, hx, hb, hml, hown, hts, hK, hQ, hA, hXO, hX, hcl, hsl⟩ := Γ
  intro H locs ls hP hS hl
  by_cases h1 : x.toInt < lo
  · exact lv_tableOut hx hb hd (Or.inl h1) ht (kd (Or.inl h1) tg ht H locs ls hP hS hl)
  · by_cases h2 : hi < x.toInt
    · exact lv_tableOut hx hb hd (Or.inr h2) ht (kd (Or.inr h2) tg ht H locs ls hP hS hl)
    · obtain ⟨off, tgt, e1, e2⟩ := hof (x.toInt - lo).toNat (by omega)
      exact lv_tableIn hx hb hd h1 h2 e1 e2 (kk off tgt h1 h2 e1 e2 H locs ls hP hS hl)
theorem g_tableIn (Γ : IsG Y G own cc nL R) {dflt lo hi : Int} {offs : Array Int} {len : Nat} {x : Int32} {off : Int} {tgt : Nat} (hd : decode cc pc = .ok (.tableswitch dflt lo hi offs, len))  (h1 : ¬ x.toInt < lo) (h2 : ¬ hi < x.toInt) (ho : offs[(x.toInt - lo).toNat]? = some off) (ht : (pc : Int) + off = (tgt : Int)) (kk : G tgt lv st μ) : G pc lv (.int x :: st) μ := by
  obtain ⟨p, e, s, m, args, below, meth, c, cells, slots, Z, A, rfl, hx, hb, hml, hown, hts, hK, hQ, hA, hXO, hX, hcl, hsl⟩ := Γ
  intro H locs ls hP hS hl
  exact lv_tableIn hx hb hd h1 h2 ho ht (kk H locs ls hP hS hl)
theorem g_tableOut (Γ : IsG Y G own cc nL R) {dflt lo hi : Int} {offs : Array Int} {len : Nat} {x : Int32} {tgt : Nat} (hd : decode cc pc = .ok (.tableswitch dflt lo hi offs, len))  (h : x.toInt < lo ∨ hi < x.toInt) (ht : (pc : Int) + dflt = (tgt : Int)) (kk : G tgt lv st μ) : G pc lv (.int x :: st) μ := by
  obtain ⟨p, e, s, m, args, below, meth, c, cells, slots, Z, A, rfl, hx, hb, hml, hown, hts, hK, hQ, hA, hXO, hX, hcl, hsl⟩ := Γ
  intro H locs ls hP hS hl
  exact lv_tableOut hx hb hd h ht (kk H locs ls hP hS hl)
theorem g_lookup (Γ : IsG Y G own cc nL R) {dflt : Int} {ps : Array (Int × Int)} {len : Nat} {x : Int32} {off : Int} {tgt : Nat} (hd : decode cc pc = .ok (.lookupswitch dflt ps, len))  (hp : (ps.toList.zip (ps.toList.drop 1)).all (fun (a, next) => a.1 < next.1) = true) (ho : Op.lookupswitch.offset ps.toList dflt x.toInt = off) (ht : (pc : Int) + off = (tgt : Int)) (kk : G tgt lv st μ) : G pc lv (.int x :: st) μ := by
  obtain ⟨p, e, s, m, args, below, meth, c, cells, slots, Z, A, rfl, hx, hb, hml, hown, hts, hK, hQ, hA, hXO, hX, hcl, hsl⟩ := Γ
  intro H locs ls hP hS hl
  exact lv_lookup hx hb hd hp ho ht (kk H locs ls hP hS hl)
theorem g_sub (Γ : IsG Y G own cc nL R) (ks : List Nat)   (hlv : lv_pick lv ks = lv') (kk : G pc lv' st μ) : G pc lv st μ := by
  obtain ⟨p, e, s, m, args, below, meth, c, cells, slots, Z, A, rfl, hx, hb, hml, hown, hts, hK, hQ, hA, hXO, hX, hcl, hsl⟩ := Γ
  intro H locs ls hP hS hl
  exact kk H locs ls hP hS (lv_sub hl ks hlv)
theorem g_get (Γ : IsG Y G own cc nL R) {i ci k index : Nat} {fs : (Nat → Int32) → List Value} {v : Value} (hd : decode cc pc = .ok (.getfield index, 3))  (hO : Obj Y i ci fs) (hF : FR own index ci k) (hv : (fs (μ i))[k]? = some v) (kk : G (pc + 3) lv (v :: st) μ) : G pc lv (.ref (sq Y i) :: st) μ := by
  obtain ⟨p, e, s, m, args, below, meth, c, cells, slots, Z, A, rfl, hx, hb, hml, hown, hts, hK, hQ, hA, hXO, hX, hcl, hsl⟩ := Γ
  intro H locs ls hP hS hl
  obtain ⟨C, T, N, f1, f2, f3, f4⟩ := hF
  exact va_get (ref := (T k).1) hx hb hts f3 hown hK hP i (by rw [wld_get hO.1, hO.2]) f1 k f2 (hts _ f4) (fun _ h => h) hv hd (kk H locs ls hP hS hl)
theorem g_put (Γ : IsG Y G own cc nL R) {i ci k index : Nat} {fs : (Nat → Int32) → List Value} {x : Int32} (hd : decode cc pc = .ok (.putfield index, 3))  (hO : Obj Y i ci fs) (hF : FW own index ci k .int) (hl0 : k < (fs (μ i)).length) (hs : (fs (μ i)).set k (.int x) = fs (upd (μ i) k x)) (kk : G (pc + 3) lv (st) (mset μ i k x)) : G pc lv (.int x :: .ref (sq Y i) :: st) μ := by
  obtain ⟨p, e, s, m, args, below, meth, c, cells, slots, Z, A, rfl, hx, hb, hml, hown, hts, hK, hQ, hA, hXO, hX, hcl, hsl⟩ := Γ
  intro H locs ls hP hS hl
  obtain ⟨C, T, N, ty0, f1, f2, f3, f4, f5, f6, f7, f8⟩ := hF
  refine va_put (ref := (T k).1) hx hb hts f3 ty0 f5 f6 hown hK hP (wld_D hQ μ) hS i (by rw [wld_get hO.1, hO.2]) f1 k f2 (hts _ f4) (fun _ h => h) f7 f8 rfl rfl hl0 hd (fun H1 locs1 hP1 _ hS1 => kk H1 locs1 ls ?_ hS1 hl)
  rw [hs, ← hO.2, wld_set hO.1] at hP1
  exact hP1
theorem g_putz (Γ : IsG Y G own cc nL R) {i ci k index : Nat} {fs : (Nat → Int32) → List Value} {x : Int32} (hd : decode cc pc = .ok (.putfield index, 3))  (hO : Obj Y i ci fs) (hF : FW own index ci k .boolean) (hx01 : x = 0 ∨ x = 1) (hl0 : k < (fs (μ i)).length) (hs : (fs (μ i)).set k (.int x) = fs (upd (μ i) k x)) (kk : G (pc + 3) lv (st) (mset μ i k x)) : G pc lv (.int x :: .ref (sq Y i) :: st) μ := by
  obtain ⟨p, e, s, m, args, below, meth, c, cells, slots, Z, A, rfl, hx, hb, hml, hown, hts, hK, hQ, hA, hXO, hX, hcl, hsl⟩ := Γ
  intro H locs ls hP hS hl
  obtain ⟨C, T, N, ty0, f1, f2, f3, f4, f5, f6, f7, f8⟩ := hF
  refine va_put (ref := (T k).1) hx hb hts f3 ty0 f5 f6 hown hK hP (wld_D hQ μ) hS i (by rw [wld_get hO.1, hO.2]) f1 k f2 (hts _ f4) (fun _ h => h) f7 f8 (by rcases hx01 with rfl | rfl <;> rfl) (by rcases hx01 with rfl | rfl <;> rfl) hl0 hd (fun H1 locs1 hP1 _ hS1 => kk H1 locs1 ls ?_ hS1 hl)
  rw [hs, ← hO.2, wld_set hO.1] at hP1
  exact hP1
theorem g_iald (Γ : IsG Y G own cc nL R) {ρ : Type} {i n : Nat} {x : Int32} {F : Int32 → Option ρ} {r : ρ} (hd : decode cc pc = .ok (.iaload, 1))  (hO : IArr Y i n) (hf : bn1 (ldM (μ i) n x) F = some r) (kk : ∀ v, F v = some r → G (pc + 1) lv (.int v :: st) μ) : G pc lv (.int x :: .ref (sq Y i) :: st) μ := by
  obtain ⟨p, e, s, m, args, below, meth, c, cells, slots, Z, A, rfl, hx, hb, hml, hown, hts, hK, hQ, hA, hXO, hX, hcl, hsl⟩ := Γ
  intro H locs ls hP hS hl
  obtain ⟨v, h1, h2⟩ := bn1_i hf
  unfold ldM at h1
  obtain ⟨o1, cA, t0, o2, o3⟩ := hO
  by_cases hin : x < 0 ∨ n ≤ x.toNatClampNeg
  · rw [if_pos hin] at h1; cases h1
  · rw [if_neg hin] at h1; cases h1
    exact va_iald hx hb hK hP i t0 (by rw [wld_get o1, o3]) o2 (show vp_in x n from hin) hd (kk _ h2 H locs ls hP hS hl)
theorem g_iast (Γ : IsG Y G own cc nL R) {ρ : Type} {i n : Nat} {x v : Int32} {F : Mem → Option ρ} {r : ρ} (hd : decode cc pc = .ok (.iastore, 1))  (hO : IArr Y i n) (hf : bn1 (stM μ i n x v) F = some r) (kk : ∀ m1, F m1 = some r → G (pc + 1) lv st m1) : G pc lv (.int v :: .int x :: .ref (sq Y i) :: st) μ := by
  obtain ⟨p, e, s, m, args, below, meth, c, cells, slots, Z, A, rfl, hx, hb, hml, hown, hts, hK, hQ, hA, hXO, hX, hcl, hsl⟩ := Γ
  intro H locs ls hP hS hl
  obtain ⟨m1, h1, h2⟩ := bn1_i hf
  unfold stM at h1
  obtain ⟨o1, cA, t0, o2, o3⟩ := hO
  by_cases hin : x < 0 ∨ n ≤ x.toNatClampNeg
  · rw [if_pos hin] at h1; cases h1
  · rw [if_neg hin] at h1; cases h1
    refine va_iast hx hb hK hP (wld_D hQ μ) hS i t0 (by rw [wld_get o1, o3]) o2 (show vp_in x n from hin) hd (fun H1 locs1 hP1 _ hS1 => kk _ h2 H1 locs1 ls ?_ hS1 hl)
    rw [← o3, wld_set o1] at hP1
    exact hP1
theorem g_alen (Γ : IsG Y G own cc nL R) {i n : Nat} {v : Int32} (hd : decode cc pc = .ok (.arraylength, 1))  (hO : IArr Y i n) (hv : Int32.ofNat n = v) (kk : G (pc + 1) lv (.int v :: st) μ) : G pc lv (.ref (sq Y i) :: st) μ := by
  obtain ⟨p, e, s, m, args, below, meth, c, cells, slots, Z, A, rfl, hx, hb, hml, hown, hts, hK, hQ, hA, hXO, hX, hcl, hsl⟩ := Γ
  intro H locs ls hP hS hl
  obtain ⟨o1, cA, t0, o2, o3⟩ := hO
  exact va_alen hx hb hK hP i t0 (by rw [wld_get o1, o3]) o2 hv hd (kk H locs ls hP hS hl)
theorem g_aald (Γ : IsG Y G own cc nL R) {ρ : Type} {i n : Nat} {g : Nat → Nat} {x : Int32} {F : Nat → Option ρ} {r : ρ} (hd : decode cc pc = .ok (.aaload, 1))  (hO : RArr Y i n g) (hf : bn1 (rdM n x) F = some r) (kk : ∀ j, j < n → F j = some r → G (pc + 1) lv (.ref (sq Y (g j)) :: st) μ) : G pc lv (.int x :: .ref (sq Y i) :: st) μ := by
  obtain ⟨p, e, s, m, args, below, meth, c, cells, slots, Z, A, rfl, hx, hb, hml, hown, hts, hK, hQ, hA, hXO, hX, hcl, hsl⟩ := Γ
  intro H locs ls hP hS hl
  obtain ⟨j, h1, h2⟩ := bn1_i hf
  unfold rdM at h1
  obtain ⟨o1, cA, t0, C, o2, o3⟩ := hO
  by_cases hin : x < 0 ∨ n ≤ x.toNatClampNeg
  · rw [if_pos hin] at h1; cases h1
  · rw [if_neg hin] at h1; cases h1
    exact va_aldq (f := fun k => some (sq Y (g k))) hx hb hK hP i t0 (by rw [wld_get o1, o3]) o2 (show vp_in x n from hin) hd (kk _ (Nat.not_le.mp fun z => hin (Or.inr z)) h2 H locs ls hP hS hl)
theorem g_copy (Γ : IsG Y G own cc nL R) {ρ : Type} {index i ni j nj : Nat} {sp dp n : Int32} {F : Mem → Option ρ} {r : ρ} (hd : decode cc pc = .ok (.invokestatic index, 3))  (hi : IArr Y i ni) (hj : IArr Y j nj) (h1 : Cond.methodLink own index arraycopyName ∈ WL) (h2 : Cond.native arraycopyName ∈ WL) (h3 : Cond.static arraycopyName ∈ WL) (h4 : Cond.initialized "java/lang/System" ∈ WL) (hfr : 1 ≤ R.frames) (hlo : (st.map fun v => v.category).sum + (nativeFrameWords "java/lang/System" "arraycopy" 5 + 11) ≤ R.locals) (hf : bn1 (cpM μ i ni sp j nj dp n) F = some r) (kk : ∀ m1, F m1 = some r → G (pc + 3) lv st m1) : G pc lv (.int n :: .int dp :: .ref (sq Y j) :: .int sp :: .ref (sq Y i) :: st) μ := by
  obtain ⟨p, e, s, m, args, below, meth, c, cells, slots, Z, A, rfl, hx, hb, hml, hown, hts, hK, hQ, hA, hXO, hX, hcl, hsl⟩ := Γ
  intro H locs ls hP hS hl
  obtain ⟨m1, g1, g2⟩ := bn1_i hf
  unfold cpM at g1
  obtain ⟨o1, cA, t0, o2, o3⟩ := hi
  obtain ⟨p1, cB, t1, p2, p3⟩ := hj
  by_cases hin : sp < 0 ∨ dp < 0 ∨ n < 0 ∨ ni < sp.toNatClampNeg + n.toNatClampNeg ∨ nj < dp.toNatClampNeg + n.toNatClampNeg
  · rw [if_pos hin] at g1; cases g1
  · rw [if_neg hin] at g1; cases g1
    simp only [not_or, Nat.not_lt] at hin
    obtain ⟨a1, a2, a3, a4, a5⟩ := hin
    refine va_copyi hx hb (hml.trans hl.1.symm) hown (hts _ h1) (hts _ h2) (hts _ h3) (hts _ h4) hK hP (wld_D hQ μ) hS i j t0 t1 (by rw [wld_get o1, o3]) (by rw [wld_get p1, p3]) o2 p2 rfl a1 a2 a3 a4 a5 (fun _ _ => rfl) hfr hlo hd (fun H1 locs1 hP1 _ hS1 => kk _ g2 H1 locs1 ls ?_ hS1 hl)
    rw [← p3, wld_set p1] at hP1
    exact hP1
theorem g_max (Γ : IsG Y G own cc nL R) {x y : Int32} {index : Nat} (hd : decode cc pc = .ok (.invokestatic index, 3))  (h1 : Cond.methodLink own index Lib.Math.max.name ∈ WL) (h2 : Cond.static Lib.Math.max.name ∈ WL) (h3 : Cond.initialized "java/lang/Math" ∈ WL) (h4 : Cond.code Lib.Math.max.name Lib.Math.max.code 2 (some .int) ∈ WL) (hfr : 1 ≤ R.frames) (hlo : (st.map fun v => v.category).sum + 13 ≤ R.locals) (kk : G (pc + 3) lv (.int (if x < y then y else x) :: st) μ) : G pc lv (.int y :: .int x :: st) μ := by
  obtain ⟨p, e, s, m, args, below, meth, c, cells, slots, Z, A, rfl, hx, hb, hml, hown, hts, hK, hQ, hA, hXO, hX, hcl, hsl⟩ := Γ
  intro H locs ls hP hS hl
  exact va_mmax hx hb (hml.trans hl.1.symm) hown (hts _ h1) (hts _ h2) (hts _ h3) (hts _ h4) hfr hlo hcl hsl hd (kk H locs ls hP hS hl)
theorem g_min (Γ : IsG Y G own cc nL R) {x y : Int32} {index : Nat} (hd : decode cc pc = .ok (.invokestatic index, 3))  (h1 : Cond.methodLink own index Lib.Math.min.name ∈ WL) (h2 : Cond.static Lib.Math.min.name ∈ WL) (h3 : Cond.initialized "java/lang/Math" ∈ WL) (h4 : Cond.code Lib.Math.min.name Lib.Math.min.code 2 (some .int) ∈ WL) (hfr : 1 ≤ R.frames) (hlo : (st.map fun v => v.category).sum + 13 ≤ R.locals) (kk : G (pc + 3) lv (.int (if y < x then y else x) :: st) μ) : G pc lv (.int y :: .int x :: st) μ := by
  obtain ⟨p, e, s, m, args, below, meth, c, cells, slots, Z, A, rfl, hx, hb, hml, hown, hts, hK, hQ, hA, hXO, hX, hcl, hsl⟩ := Γ
  intro H locs ls hP hS hl
  exact va_mmin hx hb (hml.trans hl.1.symm) hown (hts _ h1) (hts _ h2) (hts _ h3) (hts _ h4) hfr hlo hcl hsl hd (kk H locs ls hP hS hl)
theorem g_abs (Γ : IsG Y G own cc nL R) {x : Int32} {index : Nat} (hd : decode cc pc = .ok (.invokestatic index, 3))  (h1 : Cond.methodLink own index Lib.Math.abs.name ∈ WL) (h2 : Cond.static Lib.Math.abs.name ∈ WL) (h3 : Cond.initialized "java/lang/Math" ∈ WL) (h4 : Cond.code Lib.Math.abs.name Lib.Math.abs.code 1 (some .int) ∈ WL) (hfr : 1 ≤ R.frames) (hlo : (st.map fun v => v.category).sum + 13 ≤ R.locals) (kk : G (pc + 3) lv (.int (if 0 ≤ x then x else 0 - x) :: st) μ) : G pc lv (.int x :: st) μ := by
  obtain ⟨p, e, s, m, args, below, meth, c, cells, slots, Z, A, rfl, hx, hb, hml, hown, hts, hK, hQ, hA, hXO, hX, hcl, hsl⟩ := Γ
  intro H locs ls hP hS hl
  exact va_mabs hx hb (hml.trans hl.1.symm) hown (hts _ h1) (hts _ h2) (hts _ h3) (hts _ h4) hfr hlo hcl hsl hd (kk H locs ls hP hS hl)
theorem g_callV (Γ : IsG Y G own cc nL R) {y : MethodName} {cc' : ByteArray} {n' d k index i ci : Nat} {ret : Option FieldType} {fs : (Nat → Int32) → List Value} {as st0 : List Value} {o : Option Value} {m1 : Mem} {T : u_T} {N : Nat} (hd : decode cc pc = .ok (.invokevirtual index, 3)) (hM : KC Y y cc' n' ret d (.ref (sq Y i) :: as) μ o m1) (hO : Obj Y i ci fs) (hcl : vwCl[ci]? = some (y.cls, T, N)) (hI : MI y cc' n' ret k) (hV : MV y) (hw : Cond.methodLink own index y ∈ WL) (hk : as.length = k) (hR : d + 1 ≤ R.frames ∧ 8 + (n' + 11) + 40 * d ≤ R.locals) (hst : st0 = as.reverse ++ .ref (sq Y i) :: st) (hcat : (st.map fun v => v.category).sum ≤ 8) (kk : G (pc + 3) lv (o.toList ++ st) m1) : G pc lv st0 μ := by
  obtain ⟨p, e, s, m, args, below, meth, c, cells, slots, Z, A, rfl, hx, hb, hml, hown, hts, hK, hQ, hA, hXO, hX, hce, hsl⟩ := Γ
  intro H locs ls hP hS hl
  obtain ⟨i1, i2, i3, i4, i5⟩ := hI
  refine w_back (va_runV (As := as) (rest := st) ⟨hx, hb, hml, hown, hts⟩ (hM H.size) (cwV k hts (fun w h => ?_) rfl rfl rfl ⟨rfl, i3, i4, i5⟩ hR) ⟨pre_blind, va_recv hK hP hcl (by rw [wld_get hO.1, hO.2]), pre_at hP hS hK hQ hA hXO hX⟩ rfl hk hl.1 hst (lv_room hcat) hd ⟨hce, hsl⟩) hS (FA_sub hQ hA hS.1) (fun H1 locs1 hP1 hS1 => kk H1 locs1 ls hP1 hS1 hl)
  unfold wsV at h
  rcases List.mem_append.mp h with h | h
  · simp only [List.mem_cons, List.not_mem_nil, or_false] at h
    rcases h with rfl | rfl | rfl | rfl
    · exact wl_gi hw
    · exact wl_gi hV.1
    · exact wl_gi hV.2
    · exact wl_gi i2
  · exact wl_code i1 w h
theorem g_callS (Γ : IsG Y G own cc nL R) {y : MethodName} {cc' : ByteArray} {n' d k index : Nat} {ret : Option FieldType} {as st0 : List Value} {o : Option Value} {m1 : Mem} (hd : decode cc pc = .ok (.invokestatic index, 3)) (hM : KC Y y cc' n' ret d as μ o m1) (hI : MI y cc' n' ret k) (hV : MS y) (hw : Cond.methodLink own index y ∈ WL) (hk : as.length = k) (hR : d + 1 ≤ R.frames ∧ 8 + (n' + 11) + 40 * d ≤ R.locals) (hst : st0 = as.reverse ++ st) (hcat : (st.map fun v => v.category).sum ≤ 8) (kk : G (pc + 3) lv (o.toList ++ st) m1) : G pc lv st0 μ := by
  obtain ⟨p, e, s, m, args, below, meth, c, cells, slots, Z, A, rfl, hx, hb, hml, hown, hts, hK, hQ, hA, hXO, hX, hce, hsl⟩ := Γ
  intro H locs ls hP hS hl
  obtain ⟨i1, i2, i3, i4, i5⟩ := hI
  refine w_back (va_runS (As := as) (rest := st) ⟨hx, hb, hml, hown, hts⟩ (hM H.size) (va_cwS k hts (fun w h => ?_) rfl rfl rfl ⟨i3, i4, i5⟩ hR) ⟨pre_blind, pre_at hP hS hK hQ hA hXO hX⟩ rfl hk hl.1 hst (lv_room hcat) hd ⟨hce, hsl⟩) hS (FA_sub hQ hA hS.1) (fun H1 locs1 hP1 hS1 => kk H1 locs1 ls hP1 hS1 hl)
  unfold va_wsS at h
  rcases List.mem_append.mp h with h | h
  · simp only [List.mem_cons, List.not_mem_nil, or_false] at h
    rcases h with rfl | rfl | rfl
    · exact wl_gi hw
    · exact wl_gi hV
    · exact wl_gi i2
  · exact wl_code i1 w h
end GR
theorem KC.entry {Y : SYS} {y : MethodName} {cc : ByteArray} {n d : Nat} {ret : Option FieldType} {as : List Value} {μ m : Mem} {o : Option Value} {own : String} {lv : List (Nat × Value)} (hpl : plainName y.cls = true) (hown : y.cls = own) (hlen : (lg_sl as).length ≤ n) (hlv : lv_args 0 as = lv)
    (body : ∀ G : GT, IsG Y G own cc n (RM d) → (∀ x, o = some (.int x) → ret = some .int → RetI G cc x m) → (∀ x, o = some (.int x) → ret = some .boolean → RetZ G cc x m) → (o = none → ret = none → RetV G cc m) → (∀ a C, o = some (.ref a) → ret = some (.object C) → RetA G cc a m) → G 0 lv [] μ) : KC Y y cc n ret d as μ o m := by
  intro sz
  refine Met.ofW (cc := cc) (maxL := n) (ret := ret) hpl rfl ?_
  intro p e s m0 args below meth c s₁ B hml hv
  obtain ⟨rfl, hsz, hP, hK, hQ, hXO, hX⟩ := hv
  have hx := B.exec
  have hb := B.bytes
  have hr := B.returns
  have hts := atoms_spec (ws := Cond.code y cc n ret :: WL) B.pre
  have hown1 : s.vm.findClass own = some m0.cls := by rw [← hown]; exact findClass_of_methodNamed B.named
  have hlocks := B.notSynchronized
  subst hsz
  have hQF : QI Y (FA Y s.heap.size) := hQ.of (fun i hi => Or.inl ⟨i, hi, rfl⟩)
  have hl := lv_entry as (n := n) hlen
  rw [hlv] at hl
  rw [lg_entry_eq]
  have hS0 : va_S (FA Y s.heap.size) s.heap s.heap [] := va_S.rf
  refine body (fun pc lv st μ => ∀ (H : Heap) (locs : List Loc) (ls : Array Slot), va_P (sD Y) vwCl (wld Y μ) H → va_S (FA Y s.heap.size) s.heap H locs → lv_has ls n lv → W p (sL Y) e (RM d) s m0 as.toArray below meth c H locs 0 0 (MQ below (QG Y o m s.heap.size) as.toArray s 0 0 (FA Y s.heap.size)) (F0 m0 pc ls st))
    ⟨p, e, s, m0, as.toArray, below, meth, c, 0, 0, _, FA Y s.heap.size, rfl, hx, hb, hml, hown1, fun w h => hts w (List.mem_cons_of_mem _ h), hK, hQF, fun a h => Or.inr h, hXO, hX, Nat.le_refl 0, Nat.le_refl 0⟩ ?_ ?_ ?_ ?_ s.heap [] _ hP hS0 hl
  · intro x ho hrt pc lv hd H locs ls hP hS hl
    exact W.iret hx hb (hr.trans hrt) (fun t ht hW => ⟨⟨by rw [ho], by rw [ht]; exact hP⟩, hS.F ht⟩) hS.2.2 hd
  · intro x ho hrt pc lv hd h01 H locs ls hP hS hl
    exact W.zret hx hb (hr.trans hrt) (by rcases h01 with rfl | rfl <;> rfl) (fun t ht hW => ⟨⟨by rw [ho], by rw [ht]; exact hP⟩, hS.F ht⟩) hS.2.2 hd
  · intro ho hrt pc lv hd H locs ls hP hS hl
    exact W.vret hx hb (hr.trans hrt) (fun t ht hW => ⟨⟨by rw [ho], by rw [ht]; exact hP⟩, hS.F ht⟩) hS.2.2 hd
  · intro a C ho hrt pc lv hd H locs ls hP hS hl
    exact W.aret hx hb (hr.trans hrt) (Or.inl ⟨C, rfl⟩) (Or.inr ⟨a, rfl⟩) (fun t ht hW => ⟨⟨by rw [ho], by rw [ht]; exact hP⟩, hS.F ht⟩) hS.2.2 hd
theorem KC.I {Y : SYS} {y : MethodName} {cc : ByteArray} {n d : Nat} {as : List Value} {μ m : Mem} {x : Int32} (own : String) (lv : List (Nat × Value)) (hpl : plainName y.cls = true) (hown : y.cls = own) (hlen : (lg_sl as).length ≤ n) (hlv : lv_args 0 as = lv) (body : ∀ G : GT, IsG Y G own cc n (RM d) → RetI G cc x m → G 0 lv [] μ) : KC Y y cc n (some .int) d as μ (some (.int x)) m :=
  KC.entry hpl hown hlen hlv (fun G Γ h1 _ _ _ => body G Γ (h1 x rfl rfl))
theorem KC.Z {Y : SYS} {y : MethodName} {cc : ByteArray} {n d : Nat} {as : List Value} {μ m : Mem} {x : Int32} (own : String) (lv : List (Nat × Value)) (hpl : plainName y.cls = true) (hown : y.cls = own) (hlen : (lg_sl as).length ≤ n) (hlv : lv_args 0 as = lv) (body : ∀ G : GT, IsG Y G own cc n (RM d) → RetZ G cc x m → G 0 lv [] μ) : KC Y y cc n (some .boolean) d as μ (some (.int x)) m :=
  KC.entry hpl hown hlen hlv (fun G Γ _ h1 _ _ => body G Γ (h1 x rfl rfl))
theorem KC.V {Y : SYS} {y : MethodName} {cc : ByteArray} {n d : Nat} {as : List Value} {μ m : Mem} (own : String) (lv : List (Nat × Value)) (hpl : plainName y.cls = true) (hown : y.cls = own) (hlen : (lg_sl as).length ≤ n) (hlv : lv_args 0 as = lv) (body : ∀ G : GT, IsG Y G own cc n (RM d) → RetV G cc m → G 0 lv [] μ) : KC Y y cc n none d as μ none m :=
  KC.entry hpl hown hlen hlv (fun G Γ _ _ h1 _ => body G Γ (h1 rfl rfl))
theorem KC.A {Y : SYS} {y : MethodName} {cc : ByteArray} {n d : Nat} {as : List Value} {μ m : Mem} {a : Nat} {C : String} (own : String) (lv : List (Nat × Value)) (hpl : plainName y.cls = true) (hown : y.cls = own) (hlen : (lg_sl as).length ≤ n) (hlv : lv_args 0 as = lv) (body : ∀ G : GT, IsG Y G own cc n (RM d) → RetA G cc a m → G 0 lv [] μ) : KC Y y cc n (some (.object C)) d as μ (some (.ref a)) m :=
  KC.entry hpl hown hlen hlv (fun G Γ _ _ _ h1 => body G Γ (h1 a C rfl rfl))
-- leaves
theorem rI {G : GT} {cc : ByteArray} {x v : Int32} {m μ : Mem} {pc : Nat} {lv : List (Nat × Value)} (h : RetI G cc x m) (hd : decode cc pc = .ok (.ireturn, 1)) (hf : some (v, μ) = some (x, m)) : G pc lv [.int v] μ := by
  cases hf
  exact h pc lv hd
theorem rIr {G : GT} {cc : ByteArray} {x v : Int32} {μ : Mem} {pc : Nat} {lv : List (Nat × Value)} (h : RetI G cc x μ) (hd : decode cc pc = .ok (.ireturn, 1)) (hf : some v = some x) : G pc lv [.int v] μ := by
  cases hf
  exact h pc lv hd
theorem rZ {G : GT} {cc : ByteArray} {x v : Int32} {m μ : Mem} {pc : Nat} {lv : List (Nat × Value)} (h : RetZ G cc x m) (hd : decode cc pc = .ok (.ireturn, 1)) (hf : bn1 (zM v) (fun v => some (v, μ)) = some (x, m)) : G pc lv [.int v] μ := by
  unfold zM at hf
  by_cases h01 : v = 0 ∨ v = 1
  · rw [if_pos h01] at hf
    cases hf
    exact h pc lv hd h01
  · rw [if_neg h01] at hf; cases hf
theorem rZr {G : GT} {cc : ByteArray} {x v : Int32} {μ : Mem} {pc : Nat} {lv : List (Nat × Value)} (h : RetZ G cc x μ) (hd : decode cc pc = .ok (.ireturn, 1)) (hf : zM v = some x) : G pc lv [.int v] μ := by
  unfold zM at hf
  by_cases h01 : v = 0 ∨ v = 1
  · rw [if_pos h01] at hf
    cases hf
    exact h pc lv hd h01
  · rw [if_neg h01] at hf; cases hf
theorem rZk {G : GT} {cc : ByteArray} {x v : Int32} {m μ : Mem} {pc : Nat} {lv : List (Nat × Value)} (h : RetZ G cc x m) (hd : decode cc pc = .ok (.ireturn, 1)) (h01 : v = 0 ∨ v = 1) (hf : some (v, μ) = some (x, m)) : G pc lv [.int v] μ := by
  cases hf
  exact h pc lv hd h01
theorem rZkr {G : GT} {cc : ByteArray} {x v : Int32} {μ : Mem} {pc : Nat} {lv : List (Nat × Value)} (h : RetZ G cc x μ) (hd : decode cc pc = .ok (.ireturn, 1)) (h01 : v = 0 ∨ v = 1) (hf : some v = some x) : G pc lv [.int v] μ := by
  cases hf
  exact h pc lv hd h01
theorem rV {G : GT} {cc : ByteArray} {m μ : Mem} {pc : Nat} {lv : List (Nat × Value)} (h : RetV G cc m) (hd : decode cc pc = .ok (.return_, 1)) (hf : some μ = some m) : G pc lv [] μ := by
  cases hf
  exact h pc lv hd
