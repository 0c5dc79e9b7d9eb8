/-! WHAT MAKES CELLS: a judgement J pc locals stack cells k n over an explicit list of cells, k cells and n slots made so far -/
abbrev eI (c : ClassId) (n : Nat) (f : Nat → Int32) : va_E := .inl (c, n, .inl f)
abbrev eQ (c : ClassId) (n : Nat) (f : Nat → Option Nat) : va_E := .inl (c, n, .inr (.inr (.inr (.inr f))))
abbrev eO (ci : Nat) (fs : List Value) : va_E := .inr (ci, fs)
abbrev z0 : Nat → Int32 := fun _ => 0
abbrev ty4 (cI cII cR cS : ClassId) : List (ClassId × FieldType) := [(cI, .int), (cII, .array .int), (cR, .object "HalfFriends$Row"), (cS, .object "HalfFriends$Slot")]
theorem kAC_int : Cond.arrayClass .int ∈ WL := wl_of (tb_1 (List.mem_of_getElem? (i := 52) rfl)) rfl
theorem kAO_0 : Cond.arrayOver (.array .int) ∈ lw_tbl := tb_1 (List.mem_of_getElem? (i := 33) rfl)
theorem kAO_1 : Cond.arrayOver (.object "HalfFriends$Row") ∈ lw_tbl := tb_1 (List.mem_of_getElem? (i := 177) rfl)
theorem kAO_2 : Cond.arrayOver (.object "HalfFriends$Slot") ∈ lw_tbl := tb_1 (List.mem_of_getElem? (i := 179) rfl)
/-- words that last, but not by themselves: nest mates' constructors, array classes -/
def XN (U : State) : Prop := (va_Nw (.methodLinkNest RX7 9 yX0_init RX7) U ∧ va_Nw (.methodLinkNest RX7 33 yX2_init RX7) U ∧ va_Nw (.methodLinkNest RX7 40 yX3_init RX7) U ∧ va_Nw (.methodLinkNest RX7 69 yX4_init RX7) U ∧ va_Nw (.methodLinkNest RX7 70 yX5_init RX7) U ∧ va_Nw (.methodLinkNest RX5 11 yX4_init RX7) U) ∧ va_Nw (.arrayOver (.array .int)) U ∧ va_AO "HalfFriends$Row" U ∧ va_AO "HalfFriends$Slot" U
theorem XN.warm {s U : State} (hW : s.WarmedH U.vm) (h : XN s) : XN U := by
  obtain ⟨⟨h1, h2, h3, h4, h5, h6⟩, h7, h8, h9⟩ := h
  refine ⟨⟨h1.warmM hW, h2.warmM hW, h3.warmM hW, h4.warmM hW, h5.warmM hW, h6.warmM hW⟩, ?_, h8.moved hW.alike, h9.moved hW.alike⟩
  have e := Cond.arrayOver_setVmC (args := #[]) (s := s) hW.alike (.array .int)
  have e2 : (Cond.arrayOver (.array .int)).before #[] (s.setVm U.vm) = true := e.trans h7
  exact e2
def PreN (D : va_G) (t4 : List (ClassId × FieldType)) (ws : va_W) (sz : Nat) (U : State) : Prop := U.heap.size = sz ∧ va_P D vwCl ws U.heap ∧ va_K D vwCl t4 U ∧ va_D (fun _ => True) ws ∧ XN U
def RN (d mc ms : Nat) : Room := { frames := d, cells := mc, slots := ms, locals := 40 * d }
def QN (D : va_G) (Post : va_W → Prop) (A : Nat → Prop) : Array Value → State → Outcome → State → Prop := fun _ st oc t => (oc = .returned none ∧ ∃ ws', Post ws' ∧ va_P D vwCl ws' t.heap ∧ va_D A ws') ∧ va_F A st t
/-- a constructor's contract: out of the cells ws come cells with Post, mc of them new, of ms slots -/
def KN (D : va_G) (t4 : List (ClassId × FieldType)) (l : Launch) (y : MethodName) (cc : ByteArray) (n d : Nat) (as : List Value) (ws : va_W) (mc ms : Nat) (Post : va_W → Prop) : Prop :=
  ∀ sz : Nat, Met l y (.code y cc n none :: WL) (RN d mc ms) (va_Pc as (PreN D t4 ws sz)) (QN D Post (va_A ws sz)) mc ms (va_A ws sz)
abbrev JT : Type := Nat → List (Nat × Value) → List Value → va_W → Nat → Nat → Prop
def IsJ (D : va_G) (t4 : List (ClassId × FieldType)) (l : Launch) (J : JT) (own : String) (cc : ByteArray) (nL : Nat) (R : Room) (ini : Bool) : Prop :=
  ∃ (p : Program) (e : Env) (s : State) (m : MethodId) (args : Array Value) (below : List Frame) (meth : Method) (c : Code) (Z : Nat → Nat → State → Prop) (A : Nat → Prop),
    (J = fun pc lv st ws k n => ∀ (H : Heap) (locs : List Loc) (ls : Array Slot), va_P D vwCl ws H → va_D A ws → va_S A s.heap H locs → lv_has ls nL lv → W p l e R s m args below meth c H locs k n (Z R.cells R.slots) (F0 m pc ls st)) ∧
    p.tables.exec = Jvm.exec ∧ c.code = cc ∧ c.maxLocals = nL ∧ s.vm.findClass own = some m.cls ∧ (∀ w ∈ WL, w.before args s = true) ∧ va_K D vwCl t4 s ∧ (∀ a, s.heap.size ≤ a → A a) ∧ (ini = true → meth.name = "<init>") ∧ XN s
def FF (own : String) (index ci k : Nat) (ty : FieldType) : Prop := ∃ (C : String) (T : u_T) (N : Nat) (ty0 : Nat → FieldType), vwCl[ci]? = some (C, T, N) ∧ k < N ∧ (∀ w ∈ u_ws C T N, w ∈ WL) ∧ Cond.fieldLink own index (T k).1 (T k).2.1 (T k).2.2.1 ∈ WL ∧ (∀ k, k < N → parseFieldDescriptor (T k).2.2.1 = some (ty0 k)) ∧ (∀ a, a < N → ∀ b, b < N → a ≠ b → (T a).2.1 ≠ (T b).2.1) ∧ (T k).2.2.2 = true ∧ (T k).1 = own ∧ parseFieldDescriptor (T k).2.2.1 = some ty
theorem va_push_many {D : va_G} {cl : List vw_C} {A : Nat → Prop} {ws : va_W} {H H1 : Heap} {n : Nat} {e : Nat → va_E} (hP : va_P D cl ws H) (hD : va_D A ws) (hA : ∀ q, H.size ≤ q → A q) (hold : ∀ x, x < H.size → H1[x]? = H[x]?) (hnew : ∀ i, i < n → va_at D cl (H.size + i, e i) H1) :
    va_P D cl (ws ++ (List.range n).map (fun i => (H.size + i, e i))) H1 ∧ va_D A (ws ++ (List.range n).map (fun i => (H.size + i, e i))) := by
  have at' : ∀ (k : Nat) (x : Nat × va_E), ((List.range n).map (fun i => ((H.size + i, e i) : Nat × va_E)))[k]? = some x → k < n ∧ x = (H.size + k, e k) := by
    intro k x hx
    rw [List.getElem?_map] at hx
    by_cases hk : k < n
    · rw [List.getElem?_range hk] at hx
      cases hx
      exact ⟨hk, rfl⟩
    · rw [List.getElem?_eq_none (by rw [List.length_range]; omega)] at hx
      cases hx
  refine ⟨(hP.kept (fun k x hx => hold x.1 ((hP k x hx).lt))).app (fun k x hx => ?_), va_D.app hD ⟨fun i j x y hi hj hxy => ?_, fun k x hx => ?_⟩ (fun i j x y hi hj h => ?_)⟩
  · obtain ⟨h1, rfl⟩ := at' k x hx
    exact hnew k h1
  · obtain ⟨-, rfl⟩ := at' i x hi
    obtain ⟨-, rfl⟩ := at' j y hj
    have : H.size + i = H.size + j := hxy
    omega
  · obtain ⟨-, rfl⟩ := at' k x hx
    exact hA _ (Nat.le_add_right _ _)
  · obtain ⟨-, rfl⟩ := at' j y hj
    have h1 := (hP i x hi).lt
    have h2 : x.1 = H.size + j := h
    omega
theorem va_P.other {D : va_G} {cl : List vw_C} {ws : va_W} {H : Heap} (hP : va_P D cl ws H) (q0 : Nat) {a : Nat} {c : ClassId} {n : Nat} {f g : Nat → Option Nat} (he : ws[q0]? = some (a, eQ c n f)) (hf : ∀ j, j < n → f j = g j) : va_P D cl (ws.set q0 (a, eQ c n g)) H := by
  have hl := (List.getElem?_eq_some_iff.mp he).1
  intro k q hk
  by_cases hkp : k = q0
  · subst hkp
    rw [List.getElem?_set_self hl] at hk
    cases hk
    have h1 : H[a]? = some (vp_cell c (n, .inr (.inr (.inr (.inr f))))) := hP k _ he
    have e : vp_cell c (n, .inr (.inr (.inr (.inr f)))) = vp_cell c (n, .inr (.inr (.inr (.inr g)))) := by
      rw [vp_cell_q, vp_cell_q]
      unfold arrV
      congr 1
      congr 1
      funext j
      show va_rf (f j.val) = va_rf (g j.val)
      rw [hf j.val j.isLt]
    show H[a]? = some (vp_cell c (n, .inr (.inr (.inr (.inr g)))))
    rw [← e]
    exact h1
  · rw [List.getElem?_set_ne (Ne.symm hkp)] at hk
    exact hP k q hk
section GJ
variable {D : va_G} {cI cII cR cS : ClassId} {l : Launch} {J : JT} {own : String} {cc : ByteArray} {nL : Nat} {R : Room} {pc : Nat} {lv lv' : List (Nat × Value)} {st rest : List Value} {ws ws' : va_W} {k k' n n' : Nat} {ini : Bool}
theorem j_iconst (Γ : IsJ D (ty4 cI cII cR cS) l J own cc nL R ini) {i : Int} {v : Int32} (hd : decode cc pc = .ok (.iconst i, 1)) (hv : Int32.ofInt i = v) (kk : J (pc + 1) lv (.int v :: st) ws k n) : J pc lv st ws k n := by
  obtain ⟨p, e, s, m, args, below, meth, c, Z, A, rfl, hx, hb, hml, hown, hts, hK, hA, hin, hXN⟩ := Γ
  intro H locs ls hP hD hS hl
  exact lv_iconst hx hb hd hv (kk H locs ls hP hD hS hl)
theorem j_bipush (Γ : IsJ D (ty4 cI cII cR cS) l J own cc nL R ini) {i : Int} {v : Int32} (hd : decode cc pc = .ok (.bipush i, 2)) (hv : (Int8.ofInt i).toInt32 = v) (kk : J (pc + 2) lv (.int v :: st) ws k n) : J pc lv st ws k n := by
  obtain ⟨p, e, s, m, args, below, meth, c, Z, A, rfl, hx, hb, hml, hown, hts, hK, hA, hin, hXN⟩ := Γ
  intro H locs ls hP hD hS hl
  exact lv_bipush hx hb hd hv (kk H locs ls hP hD hS hl)
theorem j_sipush (Γ : IsJ D (ty4 cI cII cR cS) l J own cc nL R ini) {i : Int} {v : Int32} (hd : decode cc pc = .ok (.sipush i, 3)) (hv : (Int16.ofInt i).toInt32 = v) (kk : J (pc + 3) lv (.int v :: st) ws k n) : J pc lv st ws k n := by
  obtain ⟨p, e, s, m, args, below, meth, c, Z, A, rfl, hx, hb, hml, hown, hts, hK, hA, hin, hXN⟩ := Γ
  intro H locs ls hP hD hS hl
  exact lv_sipush hx hb hd hv (kk H locs ls hP hD hS hl)
theorem j_aload_n (Γ : IsJ D (ty4 cI cII cR cS) l J own cc nL R ini) {z : Fin 4} {i x : Nat} (j : Nat) (hd : decode cc pc = .ok (.aload_n z, 1)) (hi : (z : Nat) = i) (hj : lv[j]? = some (i, .ref x)) (kk : J (pc + 1) lv (.ref x :: st) ws k n) : J pc lv st ws k n := by
  obtain ⟨p, e, s, m, args, below, meth, c, Z, A, rfl, hx, hb, hml, hown, hts, hK, hA, hin, hXN⟩ := Γ
  intro H locs ls hP hD hS hl
  exact lv_aload_n hx hb hd hi (lv_at hl j hj) (kk H locs ls hP hD hS hl)
theorem j_iload_n (Γ : IsJ D (ty4 cI cII cR cS) l J own cc nL R ini) {z : Fin 4} {i : Nat} {x : Int32} (j : Nat) (hd : decode cc pc = .ok (.iload_n z, 1)) (hi : (z : Nat) = i) (hj : lv[j]? = some (i, .int x)) (kk : J (pc + 1) lv (.int x :: st) ws k n) : J pc lv st ws k n := by
  obtain ⟨p, e, s, m, args, below, meth, c, Z, A, rfl, hx, hb, hml, hown, hts, hK, hA, hin, hXN⟩ := Γ
  intro H locs ls hP hD hS hl
  exact lv_iload_n hx hb hd hi (lv_at hl j hj) (kk H locs ls hP hD hS hl)
theorem j_istore_n (Γ : IsJ D (ty4 cI cII cR cS) l J own cc nL R ini) {z : Fin 4} {i : Nat} {x : Int32} (hd : decode cc pc = .ok (.istore_n z, 1)) (hi : (z : Nat) = i) (hn : i < nL) (hlv : (i, Value.int x) :: lv.filter (fun q => !(q.1 == i) && !(q.1 + 1 == i && q.2.category == 2)) = lv') (kk : J (pc + 1) lv' (st) ws k n) : J pc lv (.int x :: st) ws k n := by
  obtain ⟨p, e, s, m, args, below, meth, c, Z, A, rfl, hx, hb, hml, hown, hts, hK, hA, hin, hXN⟩ := Γ
  intro H locs ls hP hD hS hl
  exact lv_istore_n hx hb hd hi hl hn hlv (fun ls hl => kk H locs ls hP hD hS hl)
theorem j_astore_n (Γ : IsJ D (ty4 cI cII cR cS) l J own cc nL R ini) {z : Fin 4} {i : Nat} {x : Nat} (hd : decode cc pc = .ok (.astore_n z, 1)) (hi : (z : Nat) = i) (hn : i < nL) (hlv : (i, Value.ref x) :: lv.filter (fun q => !(q.1 == i) && !(q.1 + 1 == i && q.2.category == 2)) = lv') (kk : J (pc + 1) lv' (st) ws k n) : J pc lv (.ref x :: st) ws k n := by
  obtain ⟨p, e, s, m, args, below, meth, c, Z, A, rfl, hx, hb, hml, hown, hts, hK, hA, hin, hXN⟩ := Γ
  intro H locs ls hP hD hS hl
  exact lv_astore_n hx hb hd hi hl hn hlv (fun ls hl => kk H locs ls hP hD hS hl)
theorem j_iinc (Γ : IsJ D (ty4 cI cII cR cS) l J own cc nL R ini) {i : Nat} {m1 : Int} {x v : Int32} (j : Nat) (hd : decode cc pc = .ok (.iinc i m1, 3)) (hj : lv[j]? = some (i, .int x)) (hv : x + Int32.ofInt m1 = v) (hn : i < nL) (hlv : (i, Value.int v) :: lv.filter (fun q => !(q.1 == i) && !(q.1 + 1 == i && q.2.category == 2)) = lv') (kk : J (pc + 3) lv' (st) ws k n) : J pc lv st ws k n := by
  obtain ⟨p, e, s, m, args, below, meth, c, Z, A, rfl, hx, hb, hml, hown, hts, hK, hA, hin, hXN⟩ := Γ
  intro H locs ls hP hD hS hl
  exact lv_iinc hx hb hd hl hj hv hn hlv (fun ls hl => kk H locs ls hP hD hS hl)
theorem j_icmp_ge_t (Γ : IsJ D (ty4 cI cII cR cS) l J own cc nL R ini) {x y : Int32} {off : Int} {tgt : Nat} (hd : decode cc pc = .ok (.if_icmp .ge off, 3)) (ht : (pc : Int) + off = (tgt : Int)) (hc : y ≤ x) (kk : J tgt lv st ws k n) : J pc lv (.int y :: .int x :: st) ws k n := by
  obtain ⟨p, e, s, m, args, below, meth, c, Z, A, rfl, hx, hb, hml, hown, hts, hK, hA, hin, hXN⟩ := Γ
  intro H locs ls hP hD hS hl
  exact lv_icmp_ge hx hb hd ht (fun _ => kk H locs ls hP hD hS hl) (fun h => absurd hc h)
theorem j_icmp_ge_f (Γ : IsJ D (ty4 cI cII cR cS) l J own cc nL R ini) {x y : Int32} {off : Int} {tgt : Nat} (hd : decode cc pc = .ok (.if_icmp .ge off, 3)) (ht : (pc : Int) + off = (tgt : Int)) (hc : ¬ y ≤ x) (kk : J (pc + 3) lv st ws k n) : J pc lv (.int y :: .int x :: st) ws k n := by
  obtain ⟨p, e, s, m, args, below, meth, c, Z, A, rfl, hx, hb, hml, hown, hts, hK, hA, hin, hXN⟩ := Γ
  intro H locs ls hP hD hS hl
  exact lv_icmp_ge hx hb hd ht (fun h => absurd h hc) (fun _ => kk H locs ls hP hD hS hl)
theorem j_goto (Γ : IsJ D (ty4 cI cII cR cS) l J own cc nL R ini) {off : Int} {tgt : Nat} (hd : decode cc pc = .ok (.goto off, 3)) (ht : (pc : Int) + off = (tgt : Int)) (kk : J tgt lv st ws k n) : J pc lv st ws k n := by
  obtain ⟨p, e, s, m, args, below, meth, c, Z, A, rfl, hx, hb, hml, hown, hts, hK, hA, hin, hXN⟩ := Γ
  intro H locs ls hP hD hS hl
  exact lv_goto hx hb hd ht (kk H locs ls hP hD hS hl)
theorem j_dup (Γ : IsJ D (ty4 cI cII cR cS) l J own cc nL R ini) {v : Value} (hd : decode cc pc = .ok (.dup, 1)) (hv : v.category = 1) (kk : J (pc + 1) lv (v :: v :: st) ws k n) : J pc lv (v :: st) ws k n := by
  obtain ⟨p, e, s, m, args, below, meth, c, Z, A, rfl, hx, hb, hml, hown, hts, hK, hA, hin, hXN⟩ := Γ
  intro H locs ls hP hD hS hl
  exact lv_dup hx hb hd hv (kk H locs ls hP hD hS hl)
theorem j_objInit (Γ : IsJ D (ty4 cI cII cR cS) l J own cc nL R ini) {idx a : Nat} (hd : decode cc pc = .ok (.invokespecial idx, 3)) (hw : Cond.methodLink own idx objectInit ∈ WL) (hf : 1 ≤ R.frames) (hlo : (st.map fun v => v.category).sum + 12 ≤ R.locals) (kk : J (pc + 3) lv (st) ws k n) : J pc lv (.ref a :: st) ws k n := by
  obtain ⟨p, e, s, m, args, below, meth, c, Z, A, rfl, hx, hb, hml, hown, hts, hK, hA, hin, hXN⟩ := Γ
  intro H locs ls hP hD hS hl
  refine W.objInit hx hb hown (hts _ hw) (hts _ kN_OBJ) (hts _ kC_OBJ) rfl (by rw [hml]; exact hl.1) rfl hd hf (by show 2 * 0 + _ + 12 ≤ _; omega) ?_
  exact (kk H locs ls hP hD hS hl)
theorem j_newa (Γ : IsJ D (ty4 cI cII cR cS) l J own cc nL R ini) {i : Int32} {N : Nat} (hd : decode cc pc = .ok (.newarray .int, 2)) (hn : ¬ i < 0) (hN : i.toNatClampNeg = N) (hby : N * 4 ≤ 536870912) (hk : k + 1 = k') (hn2 : n + N = n') (hc : k' ≤ R.cells) (hs : n' ≤ R.slots) (kk : ∀ q : Nat, J (pc + 2) lv (.ref q :: st) (ws ++ [(q, eI cI N z0)]) k' n') : J pc lv (.int i :: st) ws k n := by
  obtain ⟨p, e, s, m, args, below, meth, c, Z, A, rfl, hx, hb, hml, hown, hts, hK, hA, hin, hXN⟩ := Γ
  intro H locs ls hP hD hS hl
  subst hk
  subst hn2
  refine va_newa (atype := .int) hx hb (hts _ kAC_int) rfl hK hP hD hS hA (a0 := (N, .inl z0)) (fun cA => rfl) hn hN hby hc hs hd (fun q cA H1 hK1 hP1 hD1 hS1 => ?_)
  have e1 := (hK1.2 4 (cA, .int) rfl).2
  have e2 := (hK.2 0 (cI, .int) rfl).2
  have e3 : some cA = some cI := Eq.trans (Eq.symm (show s.vm.findClass ("[" ++ FieldType.int.toString) = some cA from e1)) (show s.vm.findClass ("[" ++ FieldType.int.toString) = some cI from e2)
  cases e3
  exact kk q H1 locs ls hP1 hD1 hS1 hl
theorem j_newqRow (Γ : IsJ D (ty4 cI cII cR cS) l J own cc nL R ini) {i : Int32} {N index : Nat} (hd : decode cc pc = .ok (.anewarray index, 3)) (hcl : Cond.classLink own index "HalfFriends$Row" ∈ WL) (hn : ¬ i < 0) (hN : i.toNatClampNeg = N) (hby : N * 4 ≤ 536870912) (hk : k + 1 = k') (hn2 : n + N = n') (hc : k' ≤ R.cells) (hs : n' ≤ R.slots) (kk : ∀ q : Nat, J (pc + 3) lv (.ref q :: st) (ws ++ [(q, eQ cR N (fun _ => none))]) k' n') : J pc lv (.int i :: st) ws k n := by
  obtain ⟨p, e, s, m, args, below, meth, c, Z, A, rfl, hx, hb, hml, hown, hts, hK, hA, hin, hXN⟩ := Γ
  intro H locs ls hP hD hS hl
  subst hk
  subst hn2
  refine va_newq hx hb hown (hts _ hcl) hXN.2.2.1 hK hP hD hS hA hn hN hby hc hs hd (fun q cA H1 hK1 hP1 hD1 hS1 => ?_)
  obtain ⟨kA, comp, -, -, -, e1⟩ := (hK1.2 4 (cA, .object "HalfFriends$Row") rfl).2
  obtain ⟨kA2, comp2, -, -, -, e2⟩ := (hK.2 2 (cR, .object "HalfFriends$Row") rfl).2
  have e3 : some cA = some cR := e1.symm.trans e2
  cases e3
  exact kk q H1 locs ls hP1 hD1 hS1 hl
theorem j_newqlot (Γ : IsJ D (ty4 cI cII cR cS) l J own cc nL R ini) {i : Int32} {N index : Nat} (hd : decode cc pc = .ok (.anewarray index, 3)) (hcl : Cond.classLink own index "HalfFriends$Slot" ∈ WL) (hn : ¬ i < 0) (hN : i.toNatClampNeg = N) (hby : N * 4 ≤ 536870912) (hk : k + 1 = k') (hn2 : n + N = n') (hc : k' ≤ R.cells) (hs : n' ≤ R.slots) (kk : ∀ q : Nat, J (pc + 3) lv (.ref q :: st) (ws ++ [(q, eQ cS N (fun _ => none))]) k' n') : J pc lv (.int i :: st) ws k n := by
  obtain ⟨p, e, s, m, args, below, meth, c, Z, A, rfl, hx, hb, hml, hown, hts, hK, hA, hin, hXN⟩ := Γ
  intro H locs ls hP hD hS hl
  subst hk
  subst hn2
  refine va_newq hx hb hown (hts _ hcl) hXN.2.2.2 hK hP hD hS hA hn hN hby hc hs hd (fun q cA H1 hK1 hP1 hD1 hS1 => ?_)
  obtain ⟨kA, comp, -, -, -, e1⟩ := (hK1.2 4 (cA, .object "HalfFriends$Slot") rfl).2
  obtain ⟨kA2, comp2, -, -, -, e2⟩ := (hK.2 3 (cS, .object "HalfFriends$Slot") rfl).2
  have e3 : some cA = some cS := e1.symm.trans e2
  cases e3
  exact kk q H1 locs ls hP1 hD1 hS1 hl
theorem j_mna (Γ : IsJ D (ty4 cI cII cR cS) l J own cc nL R ini) {i1 i2 : Int32} {N M index : Nat} (hd : decode cc pc = .ok (.multianewarray index 2, 4)) (hcl : Cond.classLink own index "[[I" ∈ WL) (hn : ¬ i1 < 0) (hm : ¬ i2 < 0) (hN : i1.toNatClampNeg = N) (hM : i2.toNatClampNeg = M) (hb1 : N * 4 ≤ 536870912) (hb2 : M * 4 ≤ 536870912) (hb3 : M ≤ 536870912) (hk : k + 1 + N = k') (hn2 : n + N + N * M = n') (hc : k' ≤ R.cells) (hs : n' ≤ R.slots) (kk : ∀ q : Nat, J (pc + 4) lv (.ref q :: st) (ws ++ (List.range (N + 1)).map (fun i => (q + i, if i = 0 then eQ cII N (fun j => if j < N then some (q + 1 + j) else none) else eI cI M z0))) k' n') : J pc lv (.int i2 :: .int i1 :: st) ws k n := by
  obtain ⟨p, e, s, m, args, below, meth, c, Z, A, rfl, hx, hb, hml, hown, hts, hK, hA, hin, hXN⟩ := Γ
  intro H locs ls hP hD hS hl
  subst hk
  subst hn2
  subst hN
  subst hM
  intro T hT Xs
  obtain ⟨vm₁, cA, comp, -, fA, fC, hO, -, X', step⟩ := Xs.multianewarray2F (ty := .int) hx hown (hts _ hcl) (show (Cond.arrayOver (.array .int)).before args s = true from hXN.2.1) (hts _ kAC_int) (g := F0 m pc ls (.int i2 :: .int i1 :: st)) rfl (by rw [hb]; exact hd) rfl hn hm hb1 hb2 hb3 rfl rfl (by omega) (by omega)
  have e3 : some comp = some cI := fC.symm.trans (hK.2 0 (cI, .int) rfl).2
  cases e3
  have e4 : some cA = some cII := fA.symm.trans (hK.2 1 (cII, .array .int) rfl).2
  cases e4
  generalize hF : Jvm.Free.Multi.fill (T.setVm vm₁) cII cI i1.toNatClampNeg i2.toNatClampNeg (defaultValue .int) i1.toNatClampNeg = F at X' step
  have hTh : (T.setVm vm₁).heap = H := hT
  obtain ⟨f1, f2, -, -⟩ := Jvm.Free.Multi.fill_facts (T.setVm vm₁) cII cI i1.toNatClampNeg i2.toNatClampNeg (defaultValue .int) i1.toNatClampNeg
  rw [hF, hTh] at f1 f2
  have hold : ∀ x : Nat, x < H.size → F.heap[x]? = H[x]? := fun x hx => by
    have := Jvm.Free.Multi.fill_old (T.setVm vm₁) cII cI i1.toNatClampNeg i2.toNatClampNeg (defaultValue .int) (a := x) (by rw [hTh]; exact hx) i1.toNatClampNeg
    rw [hF, hTh] at this
    exact this
  have hrow : ∀ j : Nat, j < i1.toNatClampNeg → F.heap[H.size + 1 + j]? = some (vp_cell cI (i2.toNatClampNeg, .inl z0)) := fun j hj => by
    have := Jvm.Free.Multi.fill_inner (T.setVm vm₁) cII cI i1.toNatClampNeg i2.toNatClampNeg (defaultValue .int) i1.toNatClampNeg j hj
    rw [hF, hTh] at this
    rw [this]
    exact congrArg some (arrV_new cI _ _)
  have hout : ∀ i : Nat, Jvm.Free.Multi.outerC cII i1.toNatClampNeg H.size i = arrV cII i1.toNatClampNeg (fun j => va_rf (if j < i then some (H.size + 1 + j) else none)) := by
    intro i
    induction i with
    | zero =>
      show ({ cls := cII, slots := Array.replicate i1.toNatClampNeg .null, vm := .none } : Cell) = _
      rw [arrV_new]
      refine congrArg (arrV cII i1.toNatClampNeg) (funext fun j => ?_)
      simp [va_rf]
    | succ i ih =>
      show (Jvm.Free.Multi.outerC cII i1.toNatClampNeg H.size i).setSlot i (.ref (H.size + 1 + i)) = _
      rw [ih, arrV_store]
      refine congrArg (arrV cII i1.toNatClampNeg) (funext fun j => ?_)
      by_cases e : j = i
      · subst e
        simp [updV, va_rf]
      · by_cases h : j < i
        · simp [updV, e, h, Nat.lt_succ_of_lt h]
        · simp [updV, e, h, show ¬ j < i + 1 by omega]
  rw [hout] at f2
  obtain ⟨hP1, hD1⟩ := va_push_many (n := i1.toNatClampNeg + 1) (e := fun i => if i = 0 then eQ cII i1.toNatClampNeg (fun j => if j < i1.toNatClampNeg then some (H.size + 1 + j) else none) else eI cI i2.toNatClampNeg z0) hP hD (fun q hq => hA q (Nat.le_trans hS.1 hq)) hold (fun i hi => by
    by_cases h0 : i = 0
    · subst h0
      exact f2
    · rw [if_neg h0]
      have := hrow (i - 1) (by omega)
      rw [show H.size + 1 + (i - 1) = H.size + i by omega] at this
      exact this)
  obtain ⟨t, a1, b1⟩ := kk H.size F.heap locs ls hP1 hD1 ⟨by rw [f1]; have := hS.1; omega, fun x h1 h2 => (hold x (Nat.lt_of_lt_of_le h1 hS.1)).trans (hS.2.1 x h1 h2), hS.2.2⟩ hl F rfl X'
  refine ⟨t, step t ?_, b1⟩
  have e : T.heap.size = H.size := by rw [hT]
  rw [e]
  exact a1
theorem j_new (Γ : IsJ D (ty4 cI cII cR cS) l J own cc nL R ini) {index ci : Nat} {C : String} {T : u_T} {N : Nat} {ty : Nat → FieldType} (fs : List Value) (hd : decode cc pc = .ok (.new index, 3)) (hc0 : vwCl[ci]? = some (C, T, N)) (hin0 : ∀ w ∈ u_ws C T N, w ∈ WL) (hty : ∀ k, k < N → parseFieldDescriptor (T k).2.2.1 = some (ty k)) (hcl : Cond.classLink own index C ∈ WL) (hii : Cond.instantiable C N ∈ WL) (hini : Cond.initialized C ∈ WL) (hfs : ∀ j, j < N → defaultValue (ty j) = vp_V fs j) (hk : k + 1 = k') (hn2 : n + N = n') (hc : k' ≤ R.cells) (hs : n' ≤ R.slots) (kk : ∀ q : Nat, J (pc + 3) lv (.ref q :: st) (ws ++ [(q, eO ci fs)]) k' n') : J pc lv st ws k n := by
  obtain ⟨p, e, s, m, args, below, meth, c, Z, A, rfl, hx, hb, hml, hown, hts, hK, hA, hin, hXN⟩ := Γ
  intro H locs ls hP hD hS hl
  subst hk
  subst hn2
  exact va_new hx hb hts hin0 ty hty hown (hts _ hcl) (hts _ hii) (hts _ hini) hK hP hD hS hA hc0 hfs hc hs hd (fun q H1 hP1 hD1 hS1 => kk q H1 locs ls hP1 hD1 hS1 hl)
theorem j_putF (Γ : IsJ D (ty4 cI cII cR cS) l J own cc nL R true) {index ci f a : Nat} {ty : FieldType} {fs : List Value} {v : Value} (q0 : Nat) (hd : decode cc pc = .ok (.putfield index, 3)) (hF : FF own index ci f ty) (he : ws[q0]? = some (a, eO ci fs)) (hnv : narrow ty v = v) (hfv : fits ty v = true) (hl0 : f < fs.length) (hws : ws.set q0 (a, eO ci (fs.set f v)) = ws') (kk : J (pc + 3) lv (st) ws' k n) : J pc lv (v :: .ref a :: st) ws k n := by
  obtain ⟨p, e, s, m, args, below, meth, c, Z, A, rfl, hx, hb, hml, hown, hts, hK, hA, hin, hXN⟩ := Γ
  intro H locs ls hP hD hS hl
  obtain ⟨C, T, N, ty0, f1, f2, f3, f4, f5, f6, f7, f8, f9⟩ := hF
  subst hws
  exact va_putF (ref := (T f).1) hx hb hts f3 ty0 f5 f6 hown hK hP hD hS q0 he f1 f f2 (hts _ f4) (fun _ h => h) f7 (hin rfl) f8 f9 hnv hfv hl0 hd (fun H1 locs1 hP1 hD1 hS1 => kk H1 locs1 ls hP1 hD1 hS1 hl)
theorem j_put (Γ : IsJ D (ty4 cI cII cR cS) l J own cc nL R ini) {index ci f a : Nat} {ty : FieldType} {fs : List Value} {v : Value} (q0 : Nat) (hd : decode cc pc = .ok (.putfield index, 3)) (hF : FW own index ci f ty) (he : ws[q0]? = some (a, eO ci fs)) (hnv : narrow ty v = v) (hfv : fits ty v = true) (hl0 : f < fs.length) (hws : ws.set q0 (a, eO ci (fs.set f v)) = ws') (kk : J (pc + 3) lv (st) ws' k n) : J pc lv (v :: .ref a :: st) ws k n := by
  obtain ⟨p, e, s, m, args, below, meth, c, Z, A, rfl, hx, hb, hml, hown, hts, hK, hA, hin, hXN⟩ := Γ
  intro H locs ls hP hD hS hl
  obtain ⟨C, T, N, ty0, f1, f2, f3, f4, f5, f6, f7, f8⟩ := hF
  subst hws
  exact va_put (ref := (T f).1) hx hb hts f3 ty0 f5 f6 hown hK hP hD hS q0 he f1 f f2 (hts _ f4) (fun _ h => h) f7 f8 hnv hfv hl0 hd (fun H1 locs1 hP1 hD1 hS1 => kk H1 locs1 ls hP1 hD1 hS1 hl)
theorem j_get (Γ : IsJ D (ty4 cI cII cR cS) l J own cc nL R ini) {index ci f a : Nat} {fs : List Value} {v : Value} (q0 : Nat) (hd : decode cc pc = .ok (.getfield index, 3)) (hF : FR own index ci f) (he : ws[q0]? = some (a, eO ci fs)) (hv : fs[f]? = some v) (kk : J (pc + 3) lv (v :: st) ws k n) : J pc lv (.ref a :: st) ws k n := by
  obtain ⟨p, e, s, m, args, below, meth, c, Z, A, rfl, hx, hb, hml, hown, hts, hK, hA, hin, hXN⟩ := Γ
  intro H locs ls hP hD hS hl
  obtain ⟨C, T, N, f1, f2, f3, f4⟩ := hF
  exact va_get (ref := (T f).1) hx hb hts f3 hown hK hP q0 he f1 f f2 (hts _ f4) (fun _ h => h) hv hd (kk H locs ls hP hD hS hl)
theorem j_iast (Γ : IsJ D (ty4 cI cII cR cS) l J own cc nL R ini) {a N : Nat} {f : Nat → Int32} {x v : Int32} (q0 : Nat) (hd : decode cc pc = .ok (.iastore, 1)) (he : ws[q0]? = some (a, eI cI N f)) (hin0 : vp_in x N) (hws : ws.set q0 (a, eI cI N (upd f x.toNatClampNeg v)) = ws') (kk : J (pc + 1) lv (st) ws' k n) : J pc lv (.int v :: .int x :: .ref a :: st) ws k n := by
  obtain ⟨p, e, s, m, args, below, meth, c, Z, A, rfl, hx, hb, hml, hown, hts, hK, hA, hin, hXN⟩ := Γ
  intro H locs ls hP hD hS hl
  subst hws
  exact va_iast hx hb hK hP hD hS q0 0 he rfl hin0 hd (fun H1 locs1 hP1 hD1 hS1 => kk H1 locs1 ls hP1 hD1 hS1 hl)
theorem j_aast (Γ : IsJ D (ty4 cI cII cR cS) l J own cc nL R ini) {a N ci v : Nat} {cA : ClassId} {r : vw_C} {f : Nat → Option Nat} {vs : List Value} {x : Int32} (q0 t0 qk : Nat) (hd : decode cc pc = .ok (.aastore, 1)) (he : ws[q0]? = some (a, eQ cA N f)) (ht : (ty4 cI cII cR cS)[t0]? = some (cA, .object r.1)) (hv : ws[qk]? = some (v, eO ci vs)) (hc : vwCl[ci]? = some r) (hin0 : vp_in x N) (hws : ws.set q0 (a, eQ cA N (va_up f x.toNatClampNeg (some v))) = ws') (kk : J (pc + 1) lv (st) ws' k n) : J pc lv (.ref v :: .int x :: .ref a :: st) ws k n := by
  obtain ⟨p, e, s, m, args, below, meth, c, Z, A, rfl, hx, hb, hml, hown, hts, hK, hA, hin, hXN⟩ := Γ
  intro H locs ls hP hD hS hl
  subst hws
  exact va_astq hx hb hK hP hD hS q0 t0 qk ci he ht hv hc hin0 hd (fun H1 locs1 hP1 hD1 hS1 => kk H1 locs1 ls hP1 hD1 hS1 hl)
theorem j_init (Γ : IsJ D (ty4 cI cII cR cS) l J own cc nL R ini) {y : MethodName} {cc' : ByteArray} {n1 d1 index mc ms h z : Nat} {as st0 : List Value} {wc wr : va_W} {Post : va_W → Prop} (isC isR : List Nat) (hd : decode cc pc = .ok (.invokespecial index, 3)) (hndC : va_nd isC = true) (hw : Cond.methodLink own index y ∈ WL) (hM : KN D (ty4 cI cII cR cS) l y cc' n1 d1 (.ref h :: as) wc mc ms Post) (hC : isC.map (fun i => ws[i]?) = wc.map some) (hR : isR.map (fun i => ws[i]?) = wr.map some) (hnd : va_nd isR = true) (hdis : ∀ i ∈ isR, i ∉ isC) (hI : MI y cc' n1 none z) (hN : Cond.instanceMethod y ∈ WL) (hnm : y.name = "<init>") (has : as.length = z) (hRm : d1 + 1 ≤ R.frames ∧ 8 + (n1 + 11) + 40 * d1 ≤ R.locals) (hst : st0 = as.reverse ++ .ref h :: st) (hcat : (st.map fun v => v.category).sum ≤ 8) (hk : k + mc = k') (hn2 : n + ms = n') (hcc : k' ≤ R.cells) (hss : n' ≤ R.slots) (kk : ∀ w1, Post w1 → J (pc + 3) lv st (wr ++ w1) k' n') : J pc lv st0 ws k n := by
  obtain ⟨p, e, s, m, args, below, meth, c, Z, A, rfl, hx, hb, hml, hown, hts, hK, hA, hin, hXN⟩ := Γ
  intro H locs ls hP hD hS hl
  subst hk
  subst hn2
  obtain ⟨i1, i2, i3, i4, i5⟩ := hI
  have hF := va_free (wc := wc) hD hS hA isC hC
  intro T hT Xs
  have hDc : va_D (fun _ => True) wc := by
    have at' : ∀ (j : Nat) (q : Nat × va_E), wc[j]? = some q → ∃ i, isC[j]? = some i ∧ ws[i]? = some q := by
      intro j q hq
      have h1 : (isC.map (fun i => ws[i]?))[j]? = some (some q) := by rw [hC, List.getElem?_map, hq]; rfl
      rw [List.getElem?_map] at h1
      cases hi : isC[j]? with
      | none => rw [hi] at h1; cases h1
      | some i => rw [hi] at h1; exact ⟨i, rfl, Option.some.inj h1⟩
    exact (hD.sub isC hndC hC).weaken (fun _ _ _ _ => trivial)
  have hPc : va_P D vwCl wc H := hP.sub isC (by
    have h2 : isC.filterMap (fun i => ws[i]?) = (isC.map (fun i => ws[i]?)).filterMap id := by rw [List.filterMap_map]; rfl
    rw [h2, hC, List.filterMap_map]
    exact List.filterMap_some)
  obtain ⟨v, st₀, t, T', L, h0, X', hL, e1, e2, ⟨⟨hv, w1, hpo, hp1, hd1⟩, hz, hkk⟩, stp⟩ := (va_runI (As := as) (rest := st) ⟨hx, hb, hml, hown, hts⟩ (hM H.size) (cwI z hts (wl_code i1) rfl rfl rfl (hts _ i2) (hts _ hw) (hts _ hN) hnm ⟨i3, i4, i5⟩ hRm) ⟨fun a U g mk q => by
      obtain ⟨q0, q1, q2, q3, q4, q5⟩ := q
      exact ⟨q0, q1, q2, va_K.moved (u := U) (U := U.calling g mk a) (Vm.Alike.refl U.vm) q3, q4, XN.warm (s := U) (U := U.calling g mk a) (State.WarmedH.refl U) q5⟩, fun U hU hW => ⟨rfl, by rw [hU], by rw [hU]; exact hPc, va_K.moved hW.alike hK, hDc, XN.warm hW hXN⟩⟩ rfl has hl.1 hst (lv_room hcat) hd ⟨hcc, hss⟩) T hT Xs
  cases hv
  rw [h0] at hz hkk
  obtain ⟨hP2, hD2⟩ := va_join hP hD isC isR hC hR hnd hdis (H1 := T'.heap) (fun q h1 h2 => by rw [e1]; exact hkk q h1 h2) hF (by rw [e1]; exact hp1) hd1
  obtain ⟨t2, a1, b1⟩ := kk w1 hpo T'.heap (locs ++ L) ls hP2 hD2 ⟨Nat.le_trans hS.1 (by rw [e1]; exact hz), fun q h1 h2 => by rw [e1, hkk q (Nat.lt_of_lt_of_le h1 hS.1) (fun z => h2 (hF q z))]; exact hS.2.1 q h1 h2, fun q hq => by
      rcases List.mem_append.mp hq with h | h
      · exact hS.2.2 q h
      · exact hF _ (hL q h)⟩ hl T' rfl X'
  exact ⟨t2, stp t2 a1, b1⟩
theorem j_initN (Γ : IsJ D (ty4 cI cII cR cS) l J own cc nL R ini) {y : MethodName} {cc' : ByteArray} {n1 d1 index mc ms h z : Nat} {as st0 : List Value} {wc wr : va_W} {Post : va_W → Prop} (isC isR : List Nat) {host : String} (hd : decode cc pc = .ok (.invokespecial index, 3)) (hndC : va_nd isC = true) (hw : ∀ s, XN s → va_Nw (.methodLinkNest own index y host) s) (hM : KN D (ty4 cI cII cR cS) l y cc' n1 d1 (.ref h :: as) wc mc ms Post) (hC : isC.map (fun i => ws[i]?) = wc.map some) (hR : isR.map (fun i => ws[i]?) = wr.map some) (hnd : va_nd isR = true) (hdis : ∀ i ∈ isR, i ∉ isC) (hI : MI y cc' n1 none z) (hN : Cond.instanceMethod y ∈ WL) (hnm : y.name = "<init>") (has : as.length = z) (hRm : d1 + 1 ≤ R.frames ∧ 8 + (n1 + 11) + 40 * d1 ≤ R.locals) (hst : st0 = as.reverse ++ .ref h :: st) (hcat : (st.map fun v => v.category).sum ≤ 8) (hk : k + mc = k') (hn2 : n + ms = n') (hcc : k' ≤ R.cells) (hss : n' ≤ R.slots) (kk : ∀ w1, Post w1 → J (pc + 3) lv st (wr ++ w1) k' n') : J pc lv st0 ws k n := by
  obtain ⟨p, e, s, m, args, below, meth, c, Z, A, rfl, hx, hb, hml, hown, hts, hK, hA, hin, hXN⟩ := Γ
  intro H locs ls hP hD hS hl
  subst hk
  subst hn2
  obtain ⟨i1, i2, i3, i4, i5⟩ := hI
  have hF := va_free (wc := wc) hD hS hA isC hC
  intro T hT Xs
  have hDc : va_D (fun _ => True) wc := by
    have at' : ∀ (j : Nat) (q : Nat × va_E), wc[j]? = some q → ∃ i, isC[j]? = some i ∧ ws[i]? = some q := by
      intro j q hq
      have h1 : (isC.map (fun i => ws[i]?))[j]? = some (some q) := by rw [hC, List.getElem?_map, hq]; rfl
      rw [List.getElem?_map] at h1
      cases hi : isC[j]? with
      | none => rw [hi] at h1; cases h1
      | some i => rw [hi] at h1; exact ⟨i, rfl, Option.some.inj h1⟩
    exact (hD.sub isC hndC hC).weaken (fun _ _ _ _ => trivial)
  have hPc : va_P D vwCl wc H := hP.sub isC (by
    have h2 : isC.filterMap (fun i => ws[i]?) = (isC.map (fun i => ws[i]?)).filterMap id := by rw [List.filterMap_map]; rfl
    rw [h2, hC, List.filterMap_map]
    exact List.filterMap_some)
  obtain ⟨v, st₀, t, T', L, h0, X', hL, e1, e2, ⟨⟨hv, w1, hpo, hp1, hd1⟩, hz, hkk⟩, stp⟩ := (va_runIN (As := as) (rest := st) ⟨hx, hb, hml, hown, hts⟩ (hM H.size) ⟨va_cnB z hts (wl_code i1) rfl rfl rfl (hw s hXN) (hts _ i2) ⟨i3, i4, i5⟩ hRm, hnm, hts _ hN⟩ ⟨fun a U g mk q => by
      obtain ⟨q0, q1, q2, q3, q4, q5⟩ := q
      exact ⟨q0, q1, q2, va_K.moved (u := U) (U := U.calling g mk a) (Vm.Alike.refl U.vm) q3, q4, XN.warm (s := U) (U := U.calling g mk a) (State.WarmedH.refl U) q5⟩, fun U hU hW => ⟨rfl, by rw [hU], by rw [hU]; exact hPc, va_K.moved hW.alike hK, hDc, XN.warm hW hXN⟩⟩ rfl has hl.1 hst (lv_room hcat) hd ⟨hcc, hss⟩) T hT Xs
  cases hv
  rw [h0] at hz hkk
  obtain ⟨hP2, hD2⟩ := va_join hP hD isC isR hC hR hnd hdis (H1 := T'.heap) (fun q h1 h2 => by rw [e1]; exact hkk q h1 h2) hF (by rw [e1]; exact hp1) hd1
  obtain ⟨t2, a1, b1⟩ := kk w1 hpo T'.heap (locs ++ L) ls hP2 hD2 ⟨Nat.le_trans hS.1 (by rw [e1]; exact hz), fun q h1 h2 => by rw [e1, hkk q (Nat.lt_of_lt_of_le h1 hS.1) (fun z => h2 (hF q z))]; exact hS.2.1 q h1 h2, fun q hq => by
      rcases List.mem_append.mp hq with h | h
      · exact hS.2.2 q h
      · exact hF _ (hL q h)⟩ hl T' rfl X'
  exact ⟨t2, stp t2 a1, b1⟩
end GJ
theorem KN.entry {D : va_G} {t4 : List (ClassId × FieldType)} {l : Launch} {y : MethodName} {cc : ByteArray} {n d mc ms : Nat} {as : List Value} {ws : va_W} {Post : va_W → Prop} (own : String) (lv : List (Nat × Value)) (hpl : plainName y.cls = true) (hown : y.cls = own) (hnm : y.name = "<init>") (hlen : (lg_sl as).length ≤ n) (hlv : lv_args 0 as = lv)
    (body : ∀ J : JT, IsJ D t4 l J own cc n (RN d mc ms) true → (∀ pc lv w1, decode cc pc = .ok (.return_, 1) → Post w1 → J pc lv [] w1 mc ms) → J 0 lv [] ws 0 0) : KN D t4 l y cc n d as ws mc ms Post := by
  intro sz
  refine Met.ofW (cc := cc) (maxL := n) (ret := none) hpl rfl ?_
  intro p e s m0 args below meth c s₁ B hml hv
  obtain ⟨rfl, hsz, hP, hK, hD0, hXN⟩ := hv
  have hx := B.exec
  have hb := B.bytes
  have hr := B.returns
  have hts := atoms_spec (ws := Cond.code y cc n none :: WL) B.pre
  have hown1 : s.vm.findClass own = some m0.cls := by rw [← hown]; exact findClass_of_methodNamed B.named
  have hlocks := B.notSynchronized
  have hin : meth.name = "<init>" := by rw [(name_of_methodNamed B.named B.method).1]; exact hnm
  subst hsz
  have hD := hD0.self (sz := s.heap.size)
  have hl := lv_entry as (n := n) hlen
  rw [hlv] at hl
  rw [lg_entry_eq]
  have hS0 : va_S (va_A ws s.heap.size) s.heap s.heap [] := va_S.rf
  refine body (fun pc lv st w1 k n1 => ∀ (H : Heap) (locs : List Loc) (ls : Array Slot), va_P D vwCl w1 H → va_D (va_A ws s.heap.size) w1 → va_S (va_A ws s.heap.size) s.heap H locs → lv_has ls n lv → W p l e (RN d mc ms) s m0 as.toArray below meth c H locs k n1 (MQ below (QN D Post (va_A ws s.heap.size)) as.toArray s mc ms (va_A ws s.heap.size)) (F0 m0 pc ls st))
    ⟨p, e, s, m0, as.toArray, below, meth, c, fun a b => MQ below (QN D Post (va_A ws s.heap.size)) as.toArray s a b (va_A ws s.heap.size), va_A ws s.heap.size, rfl, hx, hb, hml, hown1, fun w h => hts w (List.mem_cons_of_mem _ h), hK, fun a h => Or.inr h, fun _ => hin, hXN⟩ ?_ s.heap [] _ hP hD hS0 hl
  intro pc lv w1 hd hp H locs ls hP hD hS hl
  exact W.vret hx hb hr (fun t ht hW => ⟨⟨rfl, w1, hp, by rw [ht]; exact hP, hD⟩, hS.F ht⟩) hS.2.2 hd
theorem ff_X0_9 : FF RX0 9 0 0 (.array .int) := ⟨RX0, TX0, 5, tyX0, rfl, by decide, inW0, kF_X0_9, tyX0_ok, nmX0, rfl, rfl, by decide +kernel⟩
theorem ff_X0_15 : FF RX0 15 0 1 (.array .int) := ⟨RX0, TX0, 5, tyX0, rfl, by decide, inW0, kF_X0_15, tyX0_ok, nmX0, rfl, rfl, by decide +kernel⟩
theorem ff_X0_18 : FF RX0 18 0 2 (.array .int) := ⟨RX0, TX0, 5, tyX0, rfl, by decide, inW0, kF_X0_18, tyX0_ok, nmX0, rfl, rfl, by decide +kernel⟩
theorem ff_X0_23 : FF RX0 23 0 3 (.array (.array .int)) := ⟨RX0, TX0, 5, tyX0, rfl, by decide, inW0, kF_X0_23, tyX0_ok, nmX0, rfl, rfl, by decide +kernel⟩
theorem ff_X0_26 : FF RX0 26 0 4 (.array .int) := ⟨RX0, TX0, 5, tyX0, rfl, by decide, inW0, kF_X0_26, tyX0_ok, nmX0, rfl, rfl, by decide +kernel⟩
theorem ff_X2_9 : FF RX2 9 1 0 (.array .int) := ⟨RX2, TX2, 2, tyX2, rfl, by decide, inW2, kF_X2_9, tyX2_ok, nmX2, rfl, rfl, by decide +kernel⟩
theorem ff_X3_9 : FF RX3 9 2 0 (.array .int) := ⟨RX3, TX3, 9, tyX3, rfl, by decide, inW3, kF_X3_9, tyX3_ok, nmX3, rfl, rfl, by decide +kernel⟩
theorem ff_X3_15 : FF RX3 15 2 1 (.array .int) := ⟨RX3, TX3, 9, tyX3, rfl, by decide, inW3, kF_X3_15, tyX3_ok, nmX3, rfl, rfl, by decide +kernel⟩
theorem ff_X4_9 : FF RX4 9 3 0 (.array .int) := ⟨RX4, TX4, 3, tyX4, rfl, by decide, inW4, kF_X4_9, tyX4_ok, nmX4, rfl, rfl, by decide +kernel⟩
theorem ff_X5_12 : FF RX5 12 4 0 (.object "HalfFriends$Row") := ⟨RX5, TX5, 5, tyX5, rfl, by decide, inW5, kF_X5_12, tyX5_ok, nmX5, rfl, rfl, by decide +kernel⟩
theorem ff_X6_9 : FF RX6 9 5 1 (.array .int) := ⟨RX6, TX6, 15, tyX6, rfl, by decide, inW6, kF_X6_9, tyX6_ok, nmX6, rfl, rfl, by decide +kernel⟩
theorem ff_X6_15 : FF RX6 15 5 2 (.array .int) := ⟨RX6, TX6, 15, tyX6, rfl, by decide, inW6, kF_X6_15, tyX6_ok, nmX6, rfl, rfl, by decide +kernel⟩
theorem ff_X6_18 : FF RX6 18 5 3 (.array .int) := ⟨RX6, TX6, 15, tyX6, rfl, by decide, inW6, kF_X6_18, tyX6_ok, nmX6, rfl, rfl, by decide +kernel⟩
theorem ff_X6_21 : FF RX6 21 5 4 (.array .int) := ⟨RX6, TX6, 15, tyX6, rfl, by decide, inW6, kF_X6_21, tyX6_ok, nmX6, rfl, rfl, by decide +kernel⟩
theorem ff_X6_55 : FF RX6 55 5 0 (.object "HalfFriends$Book") := ⟨RX6, TX6, 15, tyX6, rfl, by decide, inW6, kF_X6_55, tyX6_ok, nmX6, rfl, rfl, by decide +kernel⟩
theorem ff_X7_10 : FF RX7 10 6 0 (.object "HalfFriends$Book") := ⟨RX7, TX7, 11, tyX7, rfl, by decide, inW7, kF_X7_10, tyX7_ok, nmX7, rfl, rfl, by decide +kernel⟩
theorem ff_X7_21 : FF RX7 21 6 1 (.object "HalfFriends$Town") := ⟨RX7, TX7, 11, tyX7, rfl, by decide, inW7, kF_X7_21, tyX7_ok, nmX7, rfl, rfl, by decide +kernel⟩
theorem ff_X7_25 : FF RX7 25 6 2 (.object "HalfFriends$Town") := ⟨RX7, TX7, 11, tyX7, rfl, by decide, inW7, kF_X7_25, tyX7_ok, nmX7, rfl, rfl, by decide +kernel⟩
theorem ff_X7_28 : FF RX7 28 6 3 (.object "HalfFriends$Town") := ⟨RX7, TX7, 11, tyX7, rfl, by decide, inW7, kF_X7_28, tyX7_ok, nmX7, rfl, rfl, by decide +kernel⟩
theorem ff_X7_34 : FF RX7 34 6 4 (.object "HalfFriends$Order") := ⟨RX7, TX7, 11, tyX7, rfl, by decide, inW7, kF_X7_34, tyX7_ok, nmX7, rfl, rfl, by decide +kernel⟩
theorem ff_X7_41 : FF RX7 41 6 5 (.object "HalfFriends$Reader") := ⟨RX7, TX7, 11, tyX7, rfl, by decide, inW7, kF_X7_41, tyX7_ok, nmX7, rfl, rfl, by decide +kernel⟩
theorem ff_X7_47 : FF RX7 47 6 6 (.array (.object "HalfFriends$Row")) := ⟨RX7, TX7, 11, tyX7, rfl, by decide, inW7, kF_X7_47, tyX7_ok, nmX7, rfl, rfl, by decide +kernel⟩
theorem ff_X7_53 : FF RX7 53 6 7 (.array (.object "HalfFriends$Slot")) := ⟨RX7, TX7, 11, tyX7, rfl, by decide, inW7, kF_X7_53, tyX7_ok, nmX7, rfl, rfl, by decide +kernel⟩
theorem ff_X7_57 : FF RX7 57 6 8 (.array .int) := ⟨RX7, TX7, 11, tyX7, rfl, by decide, inW7, kF_X7_57, tyX7_ok, nmX7, rfl, rfl, by decide +kernel⟩
theorem ff_X8_7 : FF RX8 7 7 0 (.array .int) := ⟨RX8, TX8, 31, tyX8, rfl, by decide, inW8, kF_X8_7, tyX8_ok, nmX8, rfl, rfl, by decide +kernel⟩
theorem ff_X8_13 : FF RX8 13 7 1 (.array .int) := ⟨RX8, TX8, 31, tyX8, rfl, by decide, inW8, kF_X8_13, tyX8_ok, nmX8, rfl, rfl, by decide +kernel⟩
theorem ff_X8_16 : FF RX8 16 7 2 (.array .int) := ⟨RX8, TX8, 31, tyX8, rfl, by decide, inW8, kF_X8_16, tyX8_ok, nmX8, rfl, rfl, by decide +kernel⟩
theorem ff_X8_19 : FF RX8 19 7 4 (.array .int) := ⟨RX8, TX8, 31, tyX8, rfl, by decide, inW8, kF_X8_19, tyX8_ok, nmX8, rfl, rfl, by decide +kernel⟩
theorem ff_X8_22 : FF RX8 22 7 5 (.array .int) := ⟨RX8, TX8, 31, tyX8, rfl, by decide, inW8, kF_X8_22, tyX8_ok, nmX8, rfl, rfl, by decide +kernel⟩
theorem ff_X8_25 : FF RX8 25 7 6 (.array .int) := ⟨RX8, TX8, 31, tyX8, rfl, by decide, inW8, kF_X8_25, tyX8_ok, nmX8, rfl, rfl, by decide +kernel⟩
theorem ff_X8_28 : FF RX8 28 7 7 (.array .int) := ⟨RX8, TX8, 31, tyX8, rfl, by decide, inW8, kF_X8_28, tyX8_ok, nmX8, rfl, rfl, by decide +kernel⟩
theorem ff_X8_31 : FF RX8 31 7 8 (.array .int) := ⟨RX8, TX8, 31, tyX8, rfl, by decide, inW8, kF_X8_31, tyX8_ok, nmX8, rfl, rfl, by decide +kernel⟩
theorem ff_X8_34 : FF RX8 34 7 9 (.array .int) := ⟨RX8, TX8, 31, tyX8, rfl, by decide, inW8, kF_X8_34, tyX8_ok, nmX8, rfl, rfl, by decide +kernel⟩
theorem ff_X8_37 : FF RX8 37 7 10 (.array .int) := ⟨RX8, TX8, 31, tyX8, rfl, by decide, inW8, kF_X8_37, tyX8_ok, nmX8, rfl, rfl, by decide +kernel⟩
theorem ff_X8_40 : FF RX8 40 7 11 (.array .int) := ⟨RX8, TX8, 31, tyX8, rfl, by decide, inW8, kF_X8_40, tyX8_ok, nmX8, rfl, rfl, by decide +kernel⟩
theorem ff_X8_43 : FF RX8 43 7 12 (.array .int) := ⟨RX8, TX8, 31, tyX8, rfl, by decide, inW8, kF_X8_43, tyX8_ok, nmX8, rfl, rfl, by decide +kernel⟩
theorem ff_X8_46 : FF RX8 46 7 13 (.array .int) := ⟨RX8, TX8, 31, tyX8, rfl, by decide, inW8, kF_X8_46, tyX8_ok, nmX8, rfl, rfl, by decide +kernel⟩
theorem ff_X8_49 : FF RX8 49 7 25 (.array .int) := ⟨RX8, TX8, 31, tyX8, rfl, by decide, inW8, kF_X8_49, tyX8_ok, nmX8, rfl, rfl, by decide +kernel⟩
theorem ff_X8_52 : FF RX8 52 7 26 (.array .int) := ⟨RX8, TX8, 31, tyX8, rfl, by decide, inW8, kF_X8_52, tyX8_ok, nmX8, rfl, rfl, by decide +kernel⟩
theorem ff_X8_55 : FF RX8 55 7 27 (.array .int) := ⟨RX8, TX8, 31, tyX8, rfl, by decide, inW8, kF_X8_55, tyX8_ok, nmX8, rfl, rfl, by decide +kernel⟩
theorem ff_X8_58 : FF RX8 58 7 28 (.array .int) := ⟨RX8, TX8, 31, tyX8, rfl, by decide, inW8, kF_X8_58, tyX8_ok, nmX8, rfl, rfl, by decide +kernel⟩
theorem ff_X8_61 : FF RX8 61 7 30 (.array .int) := ⟨RX8, TX8, 31, tyX8, rfl, by decide, inW8, kF_X8_61, tyX8_ok, nmX8, rfl, rfl, by decide +kernel⟩
