/-! THE LAW'S LOOP over the two systems -/
abbrev G2T : Type := Nat → List (Nat × Value) → List Value → Mem → Mem → Prop
def IsL (C M : SYS) (G : G2T) (b L : Nat) (xs : Nat → Int32) : Prop :=
  ∃ (p : Program) (e : Env) (s : State) (m : MethodId) (below : List Frame) (meth : Method) (c : Code) (cells slots : Nat),
    (G = fun pc lv st μ ν => ∀ (H : Heap) (locs : List Loc) (ls : Array Slot), va_P (sD C) vwCl (wld C μ) H → va_P (sD M) vwCl (wld M ν) H → va_S (fun q : Nat => s.heap.size ≤ q) s.heap H locs → lv_has ls 4 lv → W p (sL C) e room_1 s m #[Value.ref b] below meth c H locs cells slots (lw_Z below #[Value.ref b] s) (F0 m pc ls st)) ∧
    lw_At p s m meth c b L xs ∧ va_K (sD C) vwCl (sT C) s ∧ va_K (sD M) vwCl (sT M) s ∧ QI C (fun q : Nat => s.heap.size ≤ q) ∧ QI M (fun q : Nat => s.heap.size ≤ q) ∧ (∀ i j, i < sN C → j < sN M → sq C i ≠ sq M j) ∧ XO C ∧ XO M ∧ sX C (fun q : Nat => s.heap.size ≤ q) s s.heap ∧ sX M (fun q : Nat => s.heap.size ≤ q) s s.heap ∧ sL M = sL C ∧ cells ≤ 600000 ∧ slots ≤ 7302250
section WB2
variable {p : Program} {l : Launch} {e : Env} {R : Room} {s : State} {m : MethodId} {args : Array Value} {below : List Frame} {meth : Method} {c : Code} {H : Heap} {locs : List Loc} {cells slots : Nat} {Q : State → Prop}
variable {pc : Nat} {ls : Array Slot} {rest st0 : List Value} {a : Array Value} {A : Nat → Prop}
theorem w_back2 {Y : SYS} {o : Option Value} {m' : Mem} (hr : va_Run p l e R s m args below meth c H locs cells slots 0 0 (F0 m pc ls st0) rest (QG Y o m' H.size a) (FA Y H.size)) (hS : va_S A s.heap H locs) (hF : ∀ q, FA Y H.size q → A q)
    (kk : ∀ (H1 : Heap) (locs1 : List Loc), va_P (sD Y) vwCl (wld Y m') H1 → va_S A s.heap H1 locs1 → (∀ q : Nat, q < H.size → ¬ FA Y H.size q → H1[q]? = H[q]?) → W p l e R s m args below meth c H1 locs1 cells slots Q (F0 m (pc + 3) ls (o.toList ++ rest))) : W p l e R s m args below meth c H locs cells slots Q (F0 m pc ls st0) := by
  intro T hT X
  obtain ⟨v, st₀, t, T', L, h0, X', hL, e1, e2, ⟨⟨hv, hp⟩, hz, hk⟩, st⟩ := hr T hT X
  cases hv
  rw [h0] at hz hk
  obtain ⟨t2, a1, b1⟩ := kk T'.heap (locs ++ L) (by rw [e1]; exact hp)
    ⟨Nat.le_trans hS.1 (by rw [e1]; exact hz), fun q h1 h2 => by rw [e1, hk q (Nat.lt_of_lt_of_le h1 hS.1) (fun z => h2 (hF q z))]; exact hS.2.1 q h1 h2, fun q hq => by
      rcases List.mem_append.mp hq with h | h
      · exact hS.2.2 q h
      · exact hF _ (hL q h)⟩ (fun q h1 h2 => by rw [e1]; exact hk q h1 h2) T' rfl X'
  exact ⟨t2, st t2 a1, b1⟩
theorem other_kept {C M : SYS} {D : va_G} {ν : Mem} {H1 : Heap} (hP : va_P D vwCl (wld M ν) H) (hdis : ∀ i j, i < sN C → j < sN M → sq C i ≠ sq M j) (hk : ∀ q : Nat, q < H.size → ¬ FA C H.size q → H1[q]? = H[q]?) : va_P D vwCl (wld M ν) H1 := by
  refine hP.kept (fun k q hq => ?_)
  have hl := (hP k q hq).lt
  by_cases hj : k < sN M
  · have e := hq
    rw [wld_get hj] at e
    cases e
    refine hk _ hl (fun z => ?_)
    rcases z with ⟨i, hi, z⟩ | z
    · exact hdis i k hi hj z.symm
    · exact absurd hl (Nat.not_lt.mpr z)
  · rw [List.getElem?_eq_none (by unfold wld; simp; omega)] at hq
    cases hq
end WB2
section GL
variable {C M : SYS} {G : G2T} {b L : Nat} {xs : Nat → Int32} {pc : Nat} {lv lv' : List (Nat × Value)} {st rest : List Value} {μ ν : Mem}
theorem l_iconst (Λ : IsL C M G b L xs) {n : Int} {v : Int32} (hd : decode cL_law pc = .ok (.iconst n, 1)) (hv : Int32.ofInt n = v) (kk : G (pc + 1) lv (.int v :: st) μ ν) : G pc lv st μ ν := by
  obtain ⟨p, e, s, m, below, meth, c, cells, slots, rfl, ⟨hx, hb, hr, hml, hown, hts0, hX, hbl, hlocks, hgv⟩, hKC, hKM, hQC, hQM, hdis, hXC, hXM, hsC, hsM, hLL, hcl, hsl⟩ := Λ
  intro H locs ls hP hN hS hl
  exact lv_iconst hx hb hd hv (kk H locs ls hP hN hS hl)
theorem l_bipush (Λ : IsL C M G b L xs) {n : Int} {v : Int32} (hd : decode cL_law pc = .ok (.bipush n, 2)) (hv : (Int8.ofInt n).toInt32 = v) (kk : G (pc + 2) lv (.int v :: st) μ ν) : G pc lv st μ ν := by
  obtain ⟨p, e, s, m, below, meth, c, cells, slots, rfl, ⟨hx, hb, hr, hml, hown, hts0, hX, hbl, hlocks, hgv⟩, hKC, hKM, hQC, hQM, hdis, hXC, hXM, hsC, hsM, hLL, hcl, hsl⟩ := Λ
  intro H locs ls hP hN hS hl
  exact lv_bipush hx hb hd hv (kk H locs ls hP hN hS hl)
theorem l_iload_n (Λ : IsL C M G b L xs) {k : Fin 4} {i : Nat} {x : Int32} (j : Nat) (hd : decode cL_law pc = .ok (.iload_n k, 1)) (hi : (k : Nat) = i) (hj : lv[j]? = some (i, .int x)) (kk : G (pc + 1) lv (.int x :: st) μ ν) : G pc lv st μ ν := by
  obtain ⟨p, e, s, m, below, meth, c, cells, slots, rfl, ⟨hx, hb, hr, hml, hown, hts0, hX, hbl, hlocks, hgv⟩, hKC, hKM, hQC, hQM, hdis, hXC, hXM, hsC, hsM, hLL, hcl, hsl⟩ := Λ
  intro H locs ls hP hN hS hl
  exact lv_iload_n hx hb hd hi (lv_at hl j hj) (kk H locs ls hP hN hS hl)
theorem l_aload_n (Λ : IsL C M G b L xs) {k : Fin 4} {i x : Nat} (j : Nat) (hd : decode cL_law pc = .ok (.aload_n k, 1)) (hi : (k : Nat) = i) (hj : lv[j]? = some (i, .ref x)) (kk : G (pc + 1) lv (.ref x :: st) μ ν) : G pc lv st μ ν := by
  obtain ⟨p, e, s, m, below, meth, c, cells, slots, rfl, ⟨hx, hb, hr, hml, hown, hts0, hX, hbl, hlocks, hgv⟩, hKC, hKM, hQC, hQM, hdis, hXC, hXM, hsC, hsM, hLL, hcl, hsl⟩ := Λ
  intro H locs ls hP hN hS hl
  exact lv_aload_n hx hb hd hi (lv_at hl j hj) (kk H locs ls hP hN hS hl)
theorem l_iadd (Λ : IsL C M G b L xs) {x y : Int32} (hd : decode cL_law pc = .ok (.iadd, 1)) (kk : G (pc + 1) lv (.int (x + y) :: st) μ ν) : G pc lv (.int y :: .int x :: st) μ ν := by
  obtain ⟨p, e, s, m, below, meth, c, cells, slots, rfl, ⟨hx, hb, hr, hml, hown, hts0, hX, hbl, hlocks, hgv⟩, hKC, hKM, hQC, hQM, hdis, hXC, hXM, hsC, hsM, hLL, hcl, hsl⟩ := Λ
  intro H locs ls hP hN hS hl
  exact lv_iadd hx hb hd (kk H locs ls hP hN hS hl)
theorem l_isub (Λ : IsL C M G b L xs) {x y : Int32} (hd : decode cL_law pc = .ok (.isub, 1)) (kk : G (pc + 1) lv (.int (x - y) :: st) μ ν) : G pc lv (.int y :: .int x :: st) μ ν := by
  obtain ⟨p, e, s, m, below, meth, c, cells, slots, rfl, ⟨hx, hb, hr, hml, hown, hts0, hX, hbl, hlocks, hgv⟩, hKC, hKM, hQC, hQM, hdis, hXC, hXM, hsC, hsM, hLL, hcl, hsl⟩ := Λ
  intro H locs ls hP hN hS hl
  exact lv_isub hx hb hd (kk H locs ls hP hN hS hl)
theorem l_iand (Λ : IsL C M G b L xs) {x y : Int32} (hd : decode cL_law pc = .ok (.iand, 1)) (kk : G (pc + 1) lv (.int (x &&& y) :: st) μ ν) : G pc lv (.int y :: .int x :: st) μ ν := by
  obtain ⟨p, e, s, m, below, meth, c, cells, slots, rfl, ⟨hx, hb, hr, hml, hown, hts0, hX, hbl, hlocks, hgv⟩, hKC, hKM, hQC, hQM, hdis, hXC, hXM, hsC, hsM, hLL, hcl, hsl⟩ := Λ
  intro H locs ls hP hN hS hl
  exact lv_iand hx hb hd (kk H locs ls hP hN hS hl)
theorem l_goto (Λ : IsL C M G b L xs) {off : Int} {tgt : Nat} (hd : decode cL_law pc = .ok (.goto off, 3)) (ht : (pc : Int) + off = (tgt : Int)) (kk : G tgt lv st μ ν) : G pc lv st μ ν := by
  obtain ⟨p, e, s, m, below, meth, c, cells, slots, rfl, ⟨hx, hb, hr, hml, hown, hts0, hX, hbl, hlocks, hgv⟩, hKC, hKM, hQC, hQM, hdis, hXC, hXM, hsC, hsM, hLL, hcl, hsl⟩ := Λ
  intro H locs ls hP hN hS hl
  exact lv_goto hx hb hd ht (kk H locs ls hP hN hS hl)
theorem l_iinc (Λ : IsL C M G b L xs) {i : Nat} {n : Int} {x v : Int32} (j : Nat) (hd : decode cL_law pc = .ok (.iinc i n, 3)) (hj : lv[j]? = some (i, .int x)) (hv : x + Int32.ofInt n = v) (hn : i < 4) (hlv : (i, Value.int v) :: lv.filter (fun q => !(q.1 == i) && !(q.1 + 1 == i && q.2.category == 2)) = lv') (kk : G (pc + 3) lv' (st) μ ν) : G pc lv st μ ν := by
  obtain ⟨p, e, s, m, below, meth, c, cells, slots, rfl, ⟨hx, hb, hr, hml, hown, hts0, hX, hbl, hlocks, hgv⟩, hKC, hKM, hQC, hQM, hdis, hXC, hXM, hsC, hsM, hLL, hcl, hsl⟩ := Λ
  intro H locs ls hP hN hS hl
  exact lv_iinc hx hb hd hl hj hv hn hlv (fun ls hl => kk H locs ls hP hN hS hl)
theorem l_icmp_gt (Λ : IsL C M G b L xs) {x y : Int32} {off : Int} {tgt : Nat} (hd : decode cL_law pc = .ok (.if_icmp .gt off, 3)) (ht : (pc : Int) + off = (tgt : Int)) (kt : y < x → G tgt lv st μ ν) (kf : ¬ y < x → G (pc + 3) lv st μ ν) : G pc lv (.int y :: .int x :: st) μ ν := by
  obtain ⟨p, e, s, m, below, meth, c, cells, slots, rfl, ⟨hx, hb, hr, hml, hown, hts0, hX, hbl, hlocks, hgv⟩, hKC, hKM, hQC, hQM, hdis, hXC, hXM, hsC, hsM, hLL, hcl, hsl⟩ := Λ
  intro H locs ls hP hN hS hl
  exact lv_icmp_gt hx hb hd ht (fun h => kt h H locs ls hP hN hS hl) (fun h => kf h H locs ls hP hN hS hl)
theorem l_icmp_eq (Λ : IsL C M G b L xs) {x : Int32} {off : Int} {tgt : Nat} (hd : decode cL_law pc = .ok (.if_icmp .eq off, 3)) (ht : (pc : Int) + off = (tgt : Int)) (kk : G tgt lv st μ ν) : G pc lv (.int x :: .int x :: st) μ ν := by
  obtain ⟨p, e, s, m, below, meth, c, cells, slots, rfl, ⟨hx, hb, hr, hml, hown, hts0, hX, hbl, hlocks, hgv⟩, hKC, hKM, hQC, hQM, hdis, hXC, hXM, hsC, hsM, hLL, hcl, hsl⟩ := Λ
  intro H locs ls hP hN hS hl
  exact lv_icmp_eq hx hb hd ht (fun h => kk H locs ls hP hN hS hl) (fun h => absurd rfl h)
theorem l_tin (Λ : IsL C M G b L xs) {dflt lo hi : Int} {offs : Array Int} {len : Nat} {x : Int32} (k : Int32) {off : Int} {tgt : Nat} (hd : decode cL_law pc = .ok (.tableswitch dflt lo hi offs, len)) (hx0 : x = k) (h1 : ¬ k.toInt < lo) (h2 : ¬ hi < k.toInt) (ho : offs[(k.toInt - lo).toNat]? = some off) (ht : (pc : Int) + off = (tgt : Int)) (kk : G tgt lv st μ ν) : G pc lv (.int x :: st) μ ν := by
  obtain ⟨p, e, s, m, below, meth, c, cells, slots, rfl, ⟨hx, hb, hr, hml, hown, hts0, hX, hbl, hlocks, hgv⟩, hKC, hKM, hQC, hQM, hdis, hXC, hXM, hsC, hsM, hLL, hcl, hsl⟩ := Λ
  intro H locs ls hP hN hS hl
  subst hx0
  exact lv_tableIn hx hb hd h1 h2 ho ht (kk H locs ls hP hN hS hl)
theorem l_tout (Λ : IsL C M G b L xs) {dflt lo hi : Int} {offs : Array Int} {len : Nat} {x : Int32} {tgt : Nat} (hd : decode cL_law pc = .ok (.tableswitch dflt lo hi offs, len)) (h : x.toInt < lo ∨ hi < x.toInt) (ht : (pc : Int) + dflt = (tgt : Int)) (kk : G tgt lv st μ ν) : G pc lv (.int x :: st) μ ν := by
  obtain ⟨p, e, s, m, below, meth, c, cells, slots, rfl, ⟨hx, hb, hr, hml, hown, hts0, hX, hbl, hlocks, hgv⟩, hKC, hKM, hQC, hQM, hdis, hXC, hXM, hsC, hsM, hLL, hcl, hsl⟩ := Λ
  intro H locs ls hP hN hS hl
  exact lv_tableOut hx hb hd h ht (kk H locs ls hP hN hS hl)
theorem l_sub (Λ : IsL C M G b L xs) (ks : List Nat) (hlv : lv_pick lv ks = lv') (kk : G pc lv' st μ ν) : G pc lv st μ ν := by
  obtain ⟨p, e, s, m, below, meth, c, cells, slots, rfl, ⟨hx, hb, hr, hml, hown, hts0, hX, hbl, hlocks, hgv⟩, hKC, hKM, hQC, hQM, hdis, hXC, hXM, hsC, hsM, hLL, hcl, hsl⟩ := Λ
  intro H locs ls hP hN hS hl
  exact kk H locs ls hP hN hS (lv_sub hl ks hlv)
theorem l_slen (Λ : IsL C M G b L xs)  (hd : decode cL_law pc = .ok (.arraylength, 1)) (kk : G (pc + 1) lv (.int (nI L) :: st) μ ν) : G pc lv (.ref b :: st) μ ν := by
  obtain ⟨p, e, s, m, below, meth, c, cells, slots, rfl, ⟨hx, hb, hr, hml, hown, hts0, hX, hbl, hlocks, hgv⟩, hKC, hKM, hQC, hQM, hdis, hXC, hXM, hsC, hsM, hLL, hcl, hsl⟩ := Λ
  intro H locs ls hP hN hS hl
  exact va_slen hx hb hX hbl (Nat.not_le.mpr hbl) hS hd (kk H locs ls hP hN hS hl)
theorem l_sld (Λ : IsL C M G b L xs) {i : Int32} (hd : decode cL_law pc = .ok (.iaload, 1)) (hin : vp_in i L) (kk : G (pc + 1) lv (.int (xs i.toNatClampNeg) :: st) μ ν) : G pc lv (.int i :: .ref b :: st) μ ν := by
  obtain ⟨p, e, s, m, below, meth, c, cells, slots, rfl, ⟨hx, hb, hr, hml, hown, hts0, hX, hbl, hlocks, hgv⟩, hKC, hKM, hQC, hQM, hdis, hXC, hXM, hsC, hsM, hLL, hcl, hsl⟩ := Λ
  intro H locs ls hP hN hS hl
  exact va_sld hx hb hX hbl (Nat.not_le.mpr hbl) hS hin hd (kk H locs ls hP hN hS hl)
theorem l_ret (Λ : IsL C M G b L xs)  (hd : decode cL_law pc = .ok (.ireturn, 1)) : G pc lv [.int 1] μ ν := by
  obtain ⟨p, e, s, m, below, meth, c, cells, slots, rfl, ⟨hx, hb, hr, hml, hown, hts0, hX, hbl, hlocks, hgv⟩, hKC, hKM, hQC, hQM, hdis, hXC, hXM, hsC, hsM, hLL, hcl, hsl⟩ := Λ
  intro H locs ls hP hN hS hl
  exact va_forget (fun q hq => hS.2.2 q hq) (W.widen hcl hsl (lw_ret hx hb hr hlocks hd))
theorem l_callC (Λ : IsL C M G b L xs) {y : MethodName} {cc' : ByteArray} {n' d k index i ci : Nat} {ret0 : Option FieldType} {fs : (Nat → Int32) → List Value} {as st0 : List Value} {x : Int32} {m1 : Mem} {T : u_T} {N : Nat} (hd : decode cL_law pc = .ok (.invokevirtual index, 3)) (hM : KC C y cc' n' ret0 d (.ref (sq C i) :: as) μ (some (.int x)) m1) (hO : Obj C i ci fs) (hcy : vwCl[ci]? = some (y.cls, T, N)) (hI : MI y cc' n' ret0 k) (hV : MV y) (hw : Cond.methodLink RL index y ∈ WL) (hk : as.length = k) (hR : d + 1 ≤ room_1.frames ∧ 8 + (n' + 11) + 40 * d ≤ room_1.locals) (hst : st0 = as.reverse ++ .ref (sq C i) :: st) (hcat : (st.map fun v => v.category).sum ≤ 8) (kk : G (pc + 3) lv (.int x :: st) m1 ν) : G pc lv st0 μ ν := by
  obtain ⟨p, e, s, m, below, meth, c, cells, slots, rfl, ⟨hx, hb, hr, hml, hown, hts0, hX, hbl, hlocks, hgv⟩, hKC, hKM, hQC, hQM, hdis, hXC, hXM, hsC, hsM, hLL, hcl, hsl⟩ := Λ
  intro H locs ls hP hN hS hl
  obtain ⟨i1, i2, i3, i4, i5⟩ := hI
  have hts : ∀ w ∈ WL, w.before #[Value.ref b] s = true := fun w h => hts0 w (List.mem_filter.mp h).1
  have hA : ∀ a : Nat, s.heap.size ≤ a → (fun q : Nat => s.heap.size ≤ q) a := fun _ h => h
  
  refine w_back2 (va_runV (As := as) (rest := st) ⟨hx, hb, hml, hown, hts⟩ (hM H.size) (cwV k hts (fun w h => ?_) rfl rfl rfl ⟨rfl, i3, i4, i5⟩ hR) ⟨pre_blind, va_recv hKC hP hcy (by rw [wld_get hO.1, hO.2]), pre_at hP hS hKC hQC hA hXC hsC⟩ rfl hk hl.1 hst (lv_room hcat) hd ⟨hcl, hsl⟩) hS (FA_sub hQC hA hS.1) (fun H1 locs1 hP1 hS1 hk => ?_)
  · unfold wsV at h
    rcases List.mem_append.mp h with h | h
    · simp only [List.mem_cons, List.not_mem_nil, or_false] at h
      rcases h with rfl | rfl | rfl | rfl
      · exact wl_gi hw
      · exact wl_gi hV.1
      · exact wl_gi hV.2
      · exact wl_gi i2
    · exact wl_code i1 w h
  · exact kk H1 locs1 ls hP1 (other_kept hN hdis hk) hS1 hl
theorem l_callM (Λ : IsL C M G b L xs) {y : MethodName} {cc' : ByteArray} {n' d k index i ci : Nat} {ret0 : Option FieldType} {fs : (Nat → Int32) → List Value} {as st0 : List Value} {x : Int32} {m1 : Mem} {T : u_T} {N : Nat} (hd : decode cL_law pc = .ok (.invokevirtual index, 3)) (hM : KC M y cc' n' ret0 d (.ref (sq M i) :: as) ν (some (.int x)) m1) (hO : Obj M i ci fs) (hcy : vwCl[ci]? = some (y.cls, T, N)) (hI : MI y cc' n' ret0 k) (hV : MV y) (hw : Cond.methodLink RL index y ∈ WL) (hk : as.length = k) (hR : d + 1 ≤ room_1.frames ∧ 8 + (n' + 11) + 40 * d ≤ room_1.locals) (hst : st0 = as.reverse ++ .ref (sq M i) :: st) (hcat : (st.map fun v => v.category).sum ≤ 8) (kk : G (pc + 3) lv (.int x :: st) μ m1) : G pc lv st0 μ ν := by
  obtain ⟨p, e, s, m, below, meth, c, cells, slots, rfl, ⟨hx, hb, hr, hml, hown, hts0, hX, hbl, hlocks, hgv⟩, hKC, hKM, hQC, hQM, hdis, hXC, hXM, hsC, hsM, hLL, hcl, hsl⟩ := Λ
  intro H locs ls hP hN hS hl
  obtain ⟨i1, i2, i3, i4, i5⟩ := hI
  have hts : ∀ w ∈ WL, w.before #[Value.ref b] s = true := fun w h => hts0 w (List.mem_filter.mp h).1
  have hA : ∀ a : Nat, s.heap.size ≤ a → (fun q : Nat => s.heap.size ≤ q) a := fun _ h => h
  rw [← hLL]
  refine w_back2 (va_runV (As := as) (rest := st) ⟨hx, hb, hml, hown, hts⟩ (hM H.size) (cwV k hts (fun w h => ?_) rfl rfl rfl ⟨rfl, i3, i4, i5⟩ hR) ⟨pre_blind, va_recv hKM hN hcy (by rw [wld_get hO.1, hO.2]), pre_at hN hS hKM hQM hA hXM hsM⟩ rfl hk hl.1 hst (lv_room hcat) hd ⟨hcl, hsl⟩) hS (FA_sub hQM hA hS.1) (fun H1 locs1 hP1 hS1 hk => ?_)
  · unfold wsV at h
    rcases List.mem_append.mp h with h | h
    · simp only [List.mem_cons, List.not_mem_nil, or_false] at h
      rcases h with rfl | rfl | rfl | rfl
      · exact wl_gi hw
      · exact wl_gi hV.1
      · exact wl_gi hV.2
      · exact wl_gi i2
    · exact wl_code i1 w h
  · rw [hLL]; exact kk H1 locs1 ls (other_kept hP (fun i j hi hj h => hdis j i hj hi h.symm) hk) hP1 hS1 hl
end GL
/-- a call that only reads: what is there stays -/
def ro (o : Option Int32) (μ : Mem) : Option (Int32 × Mem) := bn1 o fun r => some (r, μ)
theorem ro_i {o : Option Int32} {μ m : Mem} {r : Int32} (h : ro o μ = some (r, m)) : o = some r ∧ m = μ := by
  obtain ⟨v, h1, h2⟩ := bn1_i h
  cases h2
  exact ⟨h1, rfl⟩
abbrev CALL : Type := (Nat → Int32) → Mem → Option (Int32 × Mem)
/-- two calls answer alike, and what they leave goes together again -/
def Step (Rel : Mem → Mem → Prop) (f g : CALL) : Prop := ∀ (a : Nat → Int32) (μ ν : Mem), Rel μ ν → ∃ r μ' ν', f a μ = some (r, μ') ∧ g a ν = some (r, ν') ∧ Rel μ' ν'
def C7_0 : CALL := fun a μ => f_X7_person (a 1) (a 2) (a 3) μ
def C8_0 : CALL := fun a μ => f_X8_person (a 1) (a 2) (a 3) μ
def C7_1 : CALL := fun a μ => f_X7_told (a 1) (a 2) μ
def C8_1 : CALL := fun a μ => f_X8_told (a 1) (a 2) μ
def C7_2 : CALL := fun a μ => ro (f_X7_as (a 1) (a 2) μ) μ
def C8_2 : CALL := fun a μ => ro (f_X8_as (a 1) (a 2) μ) μ
def C7_3 : CALL := fun a μ => f_X7_turns (a 1) (a 2) μ
def C8_3 : CALL := fun a μ => f_X8_turns (a 1) (a 2) μ
def C7_4 : CALL := fun a μ => f_X7_set (a 1) (a 2) (a 3) μ
def C8_4 : CALL := fun a μ => f_X8_set (a 1) (a 2) (a 3) μ
def C7_5 : CALL := fun a μ => f_X7_friends (a 1) (a 2) (a 3) μ
def C8_5 : CALL := fun a μ => f_X8_friends (a 1) (a 2) (a 3) μ
def C7_6 : CALL := fun a μ => f_X7_rule (a 1) (a 2) μ
def C8_6 : CALL := fun a μ => f_X8_rule (a 1) (a 2) μ
def C7_7 : CALL := fun a μ => f_X7_deal (a 1) μ
def C8_7 : CALL := fun a μ => f_X8_deal (a 1) μ
def C7_8 : CALL := fun a μ => f_X7_seed (a 1) μ
def C8_8 : CALL := fun a μ => f_X8_seed (a 1) μ
def C7_9 : CALL := fun a μ => ro (f_X7_town (a 1) μ) μ
def C8_9 : CALL := fun a μ => ro (f_X8_town (a 1) μ) μ
def C7_10 : CALL := fun a μ => f_X7_ways  μ
def C8_10 : CALL := fun a μ => ro (f_X8_ways  μ) μ
def C7_11 : CALL := fun a μ => f_X7_minds (a 1) μ
def C8_11 : CALL := fun a μ => ro (f_X8_minds (a 1) μ) μ
def C7_12 : CALL := fun a μ => f_X7_freedom  μ
def C8_12 : CALL := fun a μ => ro (f_X8_freedom  μ) μ
def C7_13 : CALL := fun a μ => f_X7_together  μ
def C8_13 : CALL := fun a μ => ro (f_X8_together  μ) μ
def C7_14 : CALL := fun a μ => f_X7_best (a 1) (a 2) μ
def C8_14 : CALL := fun a μ => f_X8_best (a 1) (a 2) μ
def C7_15 : CALL := fun a μ => f_X7_years (a 1) μ
def C8_15 : CALL := fun a μ => f_X8_years (a 1) μ
def C7_16 : CALL := fun a μ => f_X7_behind (a 1) (a 2) μ
def C8_16 : CALL := fun a μ => f_X8_behind (a 1) (a 2) μ
def C7_17 : CALL := fun a μ => f_X7_settles  μ
def C8_17 : CALL := fun a μ => f_X8_settles  μ
def C7_18 : CALL := fun a μ => f_X7_won (a 1) (a 2) μ
def C8_18 : CALL := fun a μ => f_X8_won (a 1) (a 2) μ
def C7_19 : CALL := fun a μ => ro (f_X7_lied (a 1) (a 2) μ) μ
def C8_19 : CALL := fun a μ => ro (f_X8_lied (a 1) (a 2) μ) μ
def C7_20 : CALL := fun a μ => f_X7_fee  μ
def C8_20 : CALL := fun a μ => f_X8_fee  μ
def C7_21 : CALL := fun a μ => f_X7_fine (a 1) μ
def C8_21 : CALL := fun a μ => f_X8_fine (a 1) μ
def C7_22 : CALL := fun a μ => f_X7_feed (a 1) (a 2) (a 3) μ
def C8_22 : CALL := fun a μ => f_X8_feed (a 1) (a 2) (a 3) μ
def C7_23 : CALL := fun a μ => f_X7_trim (a 1) μ
def C8_23 : CALL := fun a μ => f_X8_trim (a 1) μ
def C7_24 : CALL := fun a μ => f_X7_text  μ
def C8_24 : CALL := fun a μ => f_X8_text  μ
def C7_25 : CALL := fun a μ => ro (f_X7_textTold (a 1) (a 2) μ) μ
def C8_25 : CALL := fun a μ => ro (f_X8_textTold (a 1) (a 2) μ) μ
def C7_26 : CALL := fun a μ => ro (f_X7_why (a 1) μ) μ
def C8_26 : CALL := fun a μ => ro (f_X8_why (a 1) μ) μ
def C7_27 : CALL := fun a μ => f_X7_sheet (a 1) (a 2) (a 3) μ
def C8_27 : CALL := fun a μ => f_X8_sheet (a 1) (a 2) (a 3) μ
def C7_28 : CALL := fun a μ => f_X7_mark (a 1) (a 2) (a 3) μ
def C8_28 : CALL := fun a μ => f_X8_mark (a 1) (a 2) (a 3) μ
def C7_29 : CALL := fun a μ => f_X7_pour (a 1) μ
def C8_29 : CALL := fun a μ => f_X8_pour (a 1) μ
def C7_30 : CALL := fun a μ => ro (f_X7_reads (a 1) μ) μ
def C8_30 : CALL := fun a μ => ro (f_X8_reads (a 1) μ) μ
def C7_31 : CALL := fun a μ => f_X7_copy (a 1) (a 2) (a 3) (a 4) (a 5) μ
def C8_31 : CALL := fun a μ => f_X8_copy (a 1) (a 2) (a 3) (a 4) (a 5) μ
def C7_32 : CALL := fun a μ => f_X7_lay (a 1) (a 2) (a 3) μ
def C8_32 : CALL := fun a μ => f_X8_lay (a 1) (a 2) (a 3) μ
def C7_33 : CALL := fun a μ => ro (f_X7_ask (a 1) (a 2) μ) μ
def C8_33 : CALL := fun a μ => ro (f_X8_ask (a 1) (a 2) μ) μ
def C7_34 : CALL := fun a μ => ro (f_X7_item (a 1) (a 2) μ) μ
def C8_34 : CALL := fun a μ => ro (f_X8_item (a 1) (a 2) μ) μ
def C7_35 : CALL := fun a μ => ro (f_X7_rest (a 1) (a 2) μ) μ
def C8_35 : CALL := fun a μ => ro (f_X8_rest (a 1) (a 2) μ) μ
def C7_36 : CALL := fun a μ => f_X7_tell (a 1) μ
def C8_36 : CALL := fun a μ => f_X8_tell (a 1) μ
def C7_37 : CALL := fun a μ => f_X7_check (a 1) μ
def C8_37 : CALL := fun a μ => f_X8_check (a 1) μ
def C7_38 : CALL := fun a μ => f_X7_keep  μ
def C8_38 : CALL := fun a μ => f_X8_keep  μ
def C7_39 : CALL := fun a μ => f_X7_back  μ
def C8_39 : CALL := fun a μ => f_X8_back  μ
def C7_40 : CALL := fun a μ => ro (f_X7_count (a 1) μ) μ
def C8_40 : CALL := fun a μ => ro (f_X8_count (a 1) μ) μ
def AllSteps (Rel : Mem → Mem → Prop) : Prop := Step Rel C7_0 C8_0 ∧ Step Rel C7_1 C8_1 ∧ Step Rel C7_2 C8_2 ∧ Step Rel C7_3 C8_3 ∧ Step Rel C7_4 C8_4 ∧ Step Rel C7_5 C8_5 ∧ Step Rel C7_6 C8_6 ∧ Step Rel C7_7 C8_7 ∧ Step Rel C7_8 C8_8 ∧ Step Rel C7_9 C8_9 ∧ Step Rel C7_10 C8_10 ∧ Step Rel C7_11 C8_11 ∧ Step Rel C7_12 C8_12 ∧ Step Rel C7_13 C8_13 ∧ Step Rel C7_14 C8_14 ∧ Step Rel C7_15 C8_15 ∧ Step Rel C7_16 C8_16 ∧ Step Rel C7_17 C8_17 ∧ Step Rel C7_18 C8_18 ∧ Step Rel C7_19 C8_19 ∧ Step Rel C7_20 C8_20 ∧ Step Rel C7_21 C8_21 ∧ Step Rel C7_22 C8_22 ∧ Step Rel C7_23 C8_23 ∧ Step Rel C7_24 C8_24 ∧ Step Rel C7_25 C8_25 ∧ Step Rel C7_26 C8_26 ∧ Step Rel C7_27 C8_27 ∧ Step Rel C7_28 C8_28 ∧ Step Rel C7_29 C8_29 ∧ Step Rel C7_30 C8_30 ∧ Step Rel C7_31 C8_31 ∧ Step Rel C7_32 C8_32 ∧ Step Rel C7_33 C8_33 ∧ Step Rel C7_34 C8_34 ∧ Step Rel C7_35 C8_35 ∧ Step Rel C7_36 C8_36 ∧ Step Rel C7_37 C8_37 ∧ Step Rel C7_38 C8_38 ∧ Step Rel C7_39 C8_39 ∧ Step Rel C7_40 C8_40
set_option maxRecDepth 100000 in
set_option maxHeartbeats 4000000 in
theorem law_0 {C M : SYS} {G : G2T} {b L : Nat} {xs : Nat → Int32} (Λ : IsL C M G b L xs) (hC : IsC C) (hY : HasX C) (hM : IsM M) (hL : L ≤ 3072) {Rel : Mem → Mem → Prop} (hs : Step Rel C7_0 C8_0) {n : Nat} (hn : n + 6 ≤ L) {μ ν : Mem} (hr : Rel μ ν)
    (kk : ∀ μ' ν', Rel μ' ν' → G 1375 [(0, .ref b), (1, .ref (sq C 0)), (2, .ref (sq M 0)), (3, .int (nI n))] [] μ' ν') : G 212 [(0, .ref b), (1, .ref (sq C 0)), (2, .ref (sq M 0)), (3, .int (nI n))] [] μ ν := by
  obtain ⟨r, μ', ν', e7, e8, hr'⟩ := hs (fun j => xs (n + j)) μ ν hr
  unfold C7_0 at e7
  unfold C8_0 at e8
  try dsimp only at e7 e8
  refine l_aload_n Λ (pc := 212) 1 dL_law_212 rfl rfl ?_
  refine l_aload_n Λ (pc := 213) 0 dL_law_213 rfl rfl ?_
  refine l_iload_n Λ (pc := 214) 3 dL_law_214 rfl rfl ?_
  refine l_iconst Λ (pc := 215) (v := nI 1) dL_law_215 rfl ?_
  refine l_iadd Λ (pc := 216) dL_law_216 ?_
  rw [nI_add]
  refine l_sld Λ (pc := 217) dL_law_217 (vp_in_nI (by omega) (by omega)) ?_
  rw [nI_clamp (by omega)]
  refine l_aload_n Λ (pc := 218) 0 dL_law_218 rfl rfl ?_
  refine l_iload_n Λ (pc := 219) 3 dL_law_219 rfl rfl ?_
  refine l_iconst Λ (pc := 220) (v := nI 2) dL_law_220 rfl ?_
  refine l_iadd Λ (pc := 221) dL_law_221 ?_
  rw [nI_add]
  refine l_sld Λ (pc := 222) dL_law_222 (vp_in_nI (by omega) (by omega)) ?_
  rw [nI_clamp (by omega)]
  refine l_aload_n Λ (pc := 223) 0 dL_law_223 rfl rfl ?_
  refine l_iload_n Λ (pc := 224) 3 dL_law_224 rfl rfl ?_
  refine l_iconst Λ (pc := 225) (v := nI 3) dL_law_225 rfl ?_
  refine l_iadd Λ (pc := 226) dL_law_226 ?_
  rw [nI_add]
  refine l_sld Λ (pc := 227) dL_law_227 (vp_in_nI (by omega) (by omega)) ?_
  rw [nI_clamp (by omega)]
  refine l_callC Λ (pc := 228) (as := [.int (xs (n + 1)), .int (xs (n + 2)), .int (xs (n + 3))]) (st := []) dL_law_228 (c_X7_person hC e7) (C_main hC) rfl mi_X7_person mv_X7_person kM_L_13 rfl ⟨Nat.le_of_ble_eq_true rfl, Nat.le_of_ble_eq_true rfl⟩ rfl (Nat.le_of_ble_eq_true rfl) ?_
  refine l_aload_n Λ (pc := 231) 2 dL_law_231 rfl rfl ?_
  refine l_aload_n Λ (pc := 232) 0 dL_law_232 rfl rfl ?_
  refine l_iload_n Λ (pc := 233) 3 dL_law_233 rfl rfl ?_
  refine l_iconst Λ (pc := 234) (v := nI 1) dL_law_234 rfl ?_
  refine l_iadd Λ (pc := 235) dL_law_235 ?_
  rw [nI_add]
  refine l_sld Λ (pc := 236) dL_law_236 (vp_in_nI (by omega) (by omega)) ?_
  rw [nI_clamp (by omega)]
  refine l_aload_n Λ (pc := 237) 0 dL_law_237 rfl rfl ?_
  refine l_iload_n Λ (pc := 238) 3 dL_law_238 rfl rfl ?_
  refine l_iconst Λ (pc := 239) (v := nI 2) dL_law_239 rfl ?_
  refine l_iadd Λ (pc := 240) dL_law_240 ?_
  rw [nI_add]
  refine l_sld Λ (pc := 241) dL_law_241 (vp_in_nI (by omega) (by omega)) ?_
  rw [nI_clamp (by omega)]
  refine l_aload_n Λ (pc := 242) 0 dL_law_242 rfl rfl ?_
  refine l_iload_n Λ (pc := 243) 3 dL_law_243 rfl rfl ?_
  refine l_iconst Λ (pc := 244) (v := nI 3) dL_law_244 rfl ?_
  refine l_iadd Λ (pc := 245) dL_law_245 ?_
  rw [nI_add]
  refine l_sld Λ (pc := 246) dL_law_246 (vp_in_nI (by omega) (by omega)) ?_
  rw [nI_clamp (by omega)]
  refine l_callM Λ (pc := 247) (as := [.int (xs (n + 1)), .int (xs (n + 2)), .int (xs (n + 3))]) (st := [.int r]) dL_law_247 (c_X8_person hM e8) (M_obj hM) rfl mi_X8_person mv_X8_person kM_L_17 rfl ⟨Nat.le_of_ble_eq_true rfl, Nat.le_of_ble_eq_true rfl⟩ rfl (Nat.le_of_ble_eq_true rfl) ?_
  refine l_icmp_eq Λ (pc := 250) (tgt := 1375) dL_law_250 rfl ?_
  exact kk _ _ hr'
set_option maxRecDepth 100000 in
set_option maxHeartbeats 4000000 in
theorem law_1 {C M : SYS} {G : G2T} {b L : Nat} {xs : Nat → Int32} (Λ : IsL C M G b L xs) (hC : IsC C) (hY : HasX C) (hM : IsM M) (hL : L ≤ 3072) {Rel : Mem → Mem → Prop} (hs : Step Rel C7_1 C8_1) {n : Nat} (hn : n + 6 ≤ L) {μ ν : Mem} (hr : Rel μ ν)
    (kk : ∀ μ' ν', Rel μ' ν' → G 1375 [(0, .ref b), (1, .ref (sq C 0)), (2, .ref (sq M 0)), (3, .int (nI n))] [] μ' ν') : G 255 [(0, .ref b), (1, .ref (sq C 0)), (2, .ref (sq M 0)), (3, .int (nI n))] [] μ ν := by
  obtain ⟨r, μ', ν', e7, e8, hr'⟩ := hs (fun j => xs (n + j)) μ ν hr
  unfold C7_1 at e7
  unfold C8_1 at e8
  try dsimp only at e7 e8
  refine l_aload_n Λ (pc := 255) 1 dL_law_255 rfl rfl ?_
  refine l_aload_n Λ (pc := 256) 0 dL_law_256 rfl rfl ?_
  refine l_iload_n Λ (pc := 257) 3 dL_law_257 rfl rfl ?_
  refine l_iconst Λ (pc := 258) (v := nI 1) dL_law_258 rfl ?_
  refine l_iadd Λ (pc := 259) dL_law_259 ?_
  rw [nI_add]
  refine l_sld Λ (pc := 260) dL_law_260 (vp_in_nI (by omega) (by omega)) ?_
  rw [nI_clamp (by omega)]
  refine l_aload_n Λ (pc := 261) 0 dL_law_261 rfl rfl ?_
  refine l_iload_n Λ (pc := 262) 3 dL_law_262 rfl rfl ?_
  refine l_iconst Λ (pc := 263) (v := nI 2) dL_law_263 rfl ?_
  refine l_iadd Λ (pc := 264) dL_law_264 ?_
  rw [nI_add]
  refine l_sld Λ (pc := 265) dL_law_265 (vp_in_nI (by omega) (by omega)) ?_
  rw [nI_clamp (by omega)]
  refine l_callC Λ (pc := 266) (as := [.int (xs (n + 1)), .int (xs (n + 2))]) (st := []) dL_law_266 (c_X7_told hC e7) (C_main hC) rfl mi_X7_told mv_X7_told kM_L_18 rfl ⟨Nat.le_of_ble_eq_true rfl, Nat.le_of_ble_eq_true rfl⟩ rfl (Nat.le_of_ble_eq_true rfl) ?_
  refine l_aload_n Λ (pc := 269) 2 dL_law_269 rfl rfl ?_
  refine l_aload_n Λ (pc := 270) 0 dL_law_270 rfl rfl ?_
  refine l_iload_n Λ (pc := 271) 3 dL_law_271 rfl rfl ?_
  refine l_iconst Λ (pc := 272) (v := nI 1) dL_law_272 rfl ?_
  refine l_iadd Λ (pc := 273) dL_law_273 ?_
  rw [nI_add]
  refine l_sld Λ (pc := 274) dL_law_274 (vp_in_nI (by omega) (by omega)) ?_
  rw [nI_clamp (by omega)]
  refine l_aload_n Λ (pc := 275) 0 dL_law_275 rfl rfl ?_
  refine l_iload_n Λ (pc := 276) 3 dL_law_276 rfl rfl ?_
  refine l_iconst Λ (pc := 277) (v := nI 2) dL_law_277 rfl ?_
  refine l_iadd Λ (pc := 278) dL_law_278 ?_
  rw [nI_add]
  refine l_sld Λ (pc := 279) dL_law_279 (vp_in_nI (by omega) (by omega)) ?_
  rw [nI_clamp (by omega)]
  refine l_callM Λ (pc := 280) (as := [.int (xs (n + 1)), .int (xs (n + 2))]) (st := [.int r]) dL_law_280 (c_X8_told hM e8) (M_obj hM) rfl mi_X8_told mv_X8_told kM_L_22 rfl ⟨Nat.le_of_ble_eq_true rfl, Nat.le_of_ble_eq_true rfl⟩ rfl (Nat.le_of_ble_eq_true rfl) ?_
  refine l_icmp_eq Λ (pc := 283) (tgt := 1375) dL_law_283 rfl ?_
  exact kk _ _ hr'
set_option maxRecDepth 100000 in
set_option maxHeartbeats 4000000 in
theorem law_2 {C M : SYS} {G : G2T} {b L : Nat} {xs : Nat → Int32} (Λ : IsL C M G b L xs) (hC : IsC C) (hY : HasX C) (hM : IsM M) (hL : L ≤ 3072) {Rel : Mem → Mem → Prop} (hs : Step Rel C7_2 C8_2) {n : Nat} (hn : n + 6 ≤ L) {μ ν : Mem} (hr : Rel μ ν)
    (kk : ∀ μ' ν', Rel μ' ν' → G 1375 [(0, .ref b), (1, .ref (sq C 0)), (2, .ref (sq M 0)), (3, .int (nI n))] [] μ' ν') : G 288 [(0, .ref b), (1, .ref (sq C 0)), (2, .ref (sq M 0)), (3, .int (nI n))] [] μ ν := by
  obtain ⟨r, μ', ν', e7, e8, hr'⟩ := hs (fun j => xs (n + j)) μ ν hr
  unfold C7_2 at e7
  unfold C8_2 at e8
  try dsimp only at e7 e8
  obtain ⟨e7, rfl⟩ := ro_i e7
  obtain ⟨e8, rfl⟩ := ro_i e8
  refine l_aload_n Λ (pc := 288) 1 dL_law_288 rfl rfl ?_
  refine l_aload_n Λ (pc := 289) 0 dL_law_289 rfl rfl ?_
  refine l_iload_n Λ (pc := 290) 3 dL_law_290 rfl rfl ?_
  refine l_iconst Λ (pc := 291) (v := nI 1) dL_law_291 rfl ?_
  refine l_iadd Λ (pc := 292) dL_law_292 ?_
  rw [nI_add]
  refine l_sld Λ (pc := 293) dL_law_293 (vp_in_nI (by omega) (by omega)) ?_
  rw [nI_clamp (by omega)]
  refine l_aload_n Λ (pc := 294) 0 dL_law_294 rfl rfl ?_
  refine l_iload_n Λ (pc := 295) 3 dL_law_295 rfl rfl ?_
  refine l_iconst Λ (pc := 296) (v := nI 2) dL_law_296 rfl ?_
  refine l_iadd Λ (pc := 297) dL_law_297 ?_
  rw [nI_add]
  refine l_sld Λ (pc := 298) dL_law_298 (vp_in_nI (by omega) (by omega)) ?_
  rw [nI_clamp (by omega)]
  refine l_callC Λ (pc := 299) (as := [.int (xs (n + 1)), .int (xs (n + 2))]) (st := []) dL_law_299 (c_X7_as hC hY e7) (C_main hC) rfl mi_X7_as mv_X7_as kM_L_23 rfl ⟨Nat.le_of_ble_eq_true rfl, Nat.le_of_ble_eq_true rfl⟩ rfl (Nat.le_of_ble_eq_true rfl) ?_
  refine l_aload_n Λ (pc := 302) 2 dL_law_302 rfl rfl ?_
  refine l_aload_n Λ (pc := 303) 0 dL_law_303 rfl rfl ?_
  refine l_iload_n Λ (pc := 304) 3 dL_law_304 rfl rfl ?_
  refine l_iconst Λ (pc := 305) (v := nI 1) dL_law_305 rfl ?_
  refine l_iadd Λ (pc := 306) dL_law_306 ?_
  rw [nI_add]
  refine l_sld Λ (pc := 307) dL_law_307 (vp_in_nI (by omega) (by omega)) ?_
  rw [nI_clamp (by omega)]
  refine l_aload_n Λ (pc := 308) 0 dL_law_308 rfl rfl ?_
  refine l_iload_n Λ (pc := 309) 3 dL_law_309 rfl rfl ?_
  refine l_iconst Λ (pc := 310) (v := nI 2) dL_law_310 rfl ?_
  refine l_iadd Λ (pc := 311) dL_law_311 ?_
  rw [nI_add]
  refine l_sld Λ (pc := 312) dL_law_312 (vp_in_nI (by omega) (by omega)) ?_
  rw [nI_clamp (by omega)]
  refine l_callM Λ (pc := 313) (as := [.int (xs (n + 1)), .int (xs (n + 2))]) (st := [.int r]) dL_law_313 (c_X8_as hM e8) (M_obj hM) rfl mi_X8_as mv_X8_as kM_L_26 rfl ⟨Nat.le_of_ble_eq_true rfl, Nat.le_of_ble_eq_true rfl⟩ rfl (Nat.le_of_ble_eq_true rfl) ?_
  refine l_icmp_eq Λ (pc := 316) (tgt := 1375) dL_law_316 rfl ?_
  exact kk _ _ hr'
set_option maxRecDepth 100000 in
set_option maxHeartbeats 4000000 in
theorem law_3 {C M : SYS} {G : G2T} {b L : Nat} {xs : Nat → Int32} (Λ : IsL C M G b L xs) (hC : IsC C) (hY : HasX C) (hM : IsM M) (hL : L ≤ 3072) {Rel : Mem → Mem → Prop} (hs : Step Rel C7_3 C8_3) {n : Nat} (hn : n + 6 ≤ L) {μ ν : Mem} (hr : Rel μ ν)
    (kk : ∀ μ' ν', Rel μ' ν' → G 1375 [(0, .ref b), (1, .ref (sq C 0)), (2, .ref (sq M 0)), (3, .int (nI n))] [] μ' ν') : G 321 [(0, .ref b), (1, .ref (sq C 0)), (2, .ref (sq M 0)), (3, .int (nI n))] [] μ ν := by
  obtain ⟨r, μ', ν', e7, e8, hr'⟩ := hs (fun j => xs (n + j)) μ ν hr
  unfold C7_3 at e7
  unfold C8_3 at e8
  try dsimp only at e7 e8
  refine l_aload_n Λ (pc := 321) 1 dL_law_321 rfl rfl ?_
  refine l_aload_n Λ (pc := 322) 0 dL_law_322 rfl rfl ?_
  refine l_iload_n Λ (pc := 323) 3 dL_law_323 rfl rfl ?_
  refine l_iconst Λ (pc := 324) (v := nI 1) dL_law_324 rfl ?_
  refine l_iadd Λ (pc := 325) dL_law_325 ?_
  rw [nI_add]
  refine l_sld Λ (pc := 326) dL_law_326 (vp_in_nI (by omega) (by omega)) ?_
  rw [nI_clamp (by omega)]
  refine l_aload_n Λ (pc := 327) 0 dL_law_327 rfl rfl ?_
  refine l_iload_n Λ (pc := 328) 3 dL_law_328 rfl rfl ?_
  refine l_iconst Λ (pc := 329) (v := nI 2) dL_law_329 rfl ?_
  refine l_iadd Λ (pc := 330) dL_law_330 ?_
  rw [nI_add]
  refine l_sld Λ (pc := 331) dL_law_331 (vp_in_nI (by omega) (by omega)) ?_
  rw [nI_clamp (by omega)]
  refine l_callC Λ (pc := 332) (as := [.int (xs (n + 1)), .int (xs (n + 2))]) (st := []) dL_law_332 (c_X7_turns hC e7) (C_main hC) rfl mi_X7_turns mv_X7_turns kM_L_27 rfl ⟨Nat.le_of_ble_eq_true rfl, Nat.le_of_ble_eq_true rfl⟩ rfl (Nat.le_of_ble_eq_true rfl) ?_
  refine l_aload_n Λ (pc := 335) 2 dL_law_335 rfl rfl ?_
  refine l_aload_n Λ (pc := 336) 0 dL_law_336 rfl rfl ?_
  refine l_iload_n Λ (pc := 337) 3 dL_law_337 rfl rfl ?_
  refine l_iconst Λ (pc := 338) (v := nI 1) dL_law_338 rfl ?_
  refine l_iadd Λ (pc := 339) dL_law_339 ?_
  rw [nI_add]
  refine l_sld Λ (pc := 340) dL_law_340 (vp_in_nI (by omega) (by omega)) ?_
  rw [nI_clamp (by omega)]
  refine l_aload_n Λ (pc := 341) 0 dL_law_341 rfl rfl ?_
  refine l_iload_n Λ (pc := 342) 3 dL_law_342 rfl rfl ?_
  refine l_iconst Λ (pc := 343) (v := nI 2) dL_law_343 rfl ?_
  refine l_iadd Λ (pc := 344) dL_law_344 ?_
  rw [nI_add]
  refine l_sld Λ (pc := 345) dL_law_345 (vp_in_nI (by omega) (by omega)) ?_
  rw [nI_clamp (by omega)]
  refine l_callM Λ (pc := 346) (as := [.int (xs (n + 1)), .int (xs (n + 2))]) (st := [.int r]) dL_law_346 (c_X8_turns hM e8) (M_obj hM) rfl mi_X8_turns mv_X8_turns kM_L_30 rfl ⟨Nat.le_of_ble_eq_true rfl, Nat.le_of_ble_eq_true rfl⟩ rfl (Nat.le_of_ble_eq_true rfl) ?_
  refine l_icmp_eq Λ (pc := 349) (tgt := 1375) dL_law_349 rfl ?_
  exact kk _ _ hr'
set_option maxRecDepth 100000 in
set_option maxHeartbeats 4000000 in
theorem law_4 {C M : SYS} {G : G2T} {b L : Nat} {xs : Nat → Int32} (Λ : IsL C M G b L xs) (hC : IsC C) (hY : HasX C) (hM : IsM M) (hL : L ≤ 3072) {Rel : Mem → Mem → Prop} (hs : Step Rel C7_4 C8_4) {n : Nat} (hn : n + 6 ≤ L) {μ ν : Mem} (hr : Rel μ ν)
    (kk : ∀ μ' ν', Rel μ' ν' → G 1375 [(0, .ref b), (1, .ref (sq C 0)), (2, .ref (sq M 0)), (3, .int (nI n))] [] μ' ν') : G 354 [(0, .ref b), (1, .ref (sq C 0)), (2, .ref (sq M 0)), (3, .int (nI n))] [] μ ν := by
  obtain ⟨r, μ', ν', e7, e8, hr'⟩ := hs (fun j => xs (n + j)) μ ν hr
  unfold C7_4 at e7
  unfold C8_4 at e8
  try dsimp only at e7 e8
  refine l_aload_n Λ (pc := 354) 1 dL_law_354 rfl rfl ?_
  refine l_aload_n Λ (pc := 355) 0 dL_law_355 rfl rfl ?_
  refine l_iload_n Λ (pc := 356) 3 dL_law_356 rfl rfl ?_
  refine l_iconst Λ (pc := 357) (v := nI 1) dL_law_357 rfl ?_
  refine l_iadd Λ (pc := 358) dL_law_358 ?_
  rw [nI_add]
  refine l_sld Λ (pc := 359) dL_law_359 (vp_in_nI (by omega) (by omega)) ?_
  rw [nI_clamp (by omega)]
  refine l_aload_n Λ (pc := 360) 0 dL_law_360 rfl rfl ?_
  refine l_iload_n Λ (pc := 361) 3 dL_law_361 rfl rfl ?_
  refine l_iconst Λ (pc := 362) (v := nI 2) dL_law_362 rfl ?_
  refine l_iadd Λ (pc := 363) dL_law_363 ?_
  rw [nI_add]
  refine l_sld Λ (pc := 364) dL_law_364 (vp_in_nI (by omega) (by omega)) ?_
  rw [nI_clamp (by omega)]
  refine l_aload_n Λ (pc := 365) 0 dL_law_365 rfl rfl ?_
  refine l_iload_n Λ (pc := 366) 3 dL_law_366 rfl rfl ?_
  refine l_iconst Λ (pc := 367) (v := nI 3) dL_law_367 rfl ?_
  refine l_iadd Λ (pc := 368) dL_law_368 ?_
  rw [nI_add]
  refine l_sld Λ (pc := 369) dL_law_369 (vp_in_nI (by omega) (by omega)) ?_
  rw [nI_clamp (by omega)]
  refine l_callC Λ (pc := 370) (as := [.int (xs (n + 1)), .int (xs (n + 2)), .int (xs (n + 3))]) (st := []) dL_law_370 (c_X7_set hC e7) (C_main hC) rfl mi_X7_set mv_X7_set kM_L_31 rfl ⟨Nat.le_of_ble_eq_true rfl, Nat.le_of_ble_eq_true rfl⟩ rfl (Nat.le_of_ble_eq_true rfl) ?_
  refine l_aload_n Λ (pc := 373) 2 dL_law_373 rfl rfl ?_
  refine l_aload_n Λ (pc := 374) 0 dL_law_374 rfl rfl ?_
  refine l_iload_n Λ (pc := 375) 3 dL_law_375 rfl rfl ?_
  refine l_iconst Λ (pc := 376) (v := nI 1) dL_law_376 rfl ?_
  refine l_iadd Λ (pc := 377) dL_law_377 ?_
  rw [nI_add]
  refine l_sld Λ (pc := 378) dL_law_378 (vp_in_nI (by omega) (by omega)) ?_
  rw [nI_clamp (by omega)]
  refine l_aload_n Λ (pc := 379) 0 dL_law_379 rfl rfl ?_
  refine l_iload_n Λ (pc := 380) 3 dL_law_380 rfl rfl ?_
  refine l_iconst Λ (pc := 381) (v := nI 2) dL_law_381 rfl ?_
  refine l_iadd Λ (pc := 382) dL_law_382 ?_
  rw [nI_add]
  refine l_sld Λ (pc := 383) dL_law_383 (vp_in_nI (by omega) (by omega)) ?_
  rw [nI_clamp (by omega)]
  refine l_aload_n Λ (pc := 384) 0 dL_law_384 rfl rfl ?_
  refine l_iload_n Λ (pc := 385) 3 dL_law_385 rfl rfl ?_
  refine l_iconst Λ (pc := 386) (v := nI 3) dL_law_386 rfl ?_
  refine l_iadd Λ (pc := 387) dL_law_387 ?_
  rw [nI_add]
  refine l_sld Λ (pc := 388) dL_law_388 (vp_in_nI (by omega) (by omega)) ?_
  rw [nI_clamp (by omega)]
  refine l_callM Λ (pc := 389) (as := [.int (xs (n + 1)), .int (xs (n + 2)), .int (xs (n + 3))]) (st := [.int r]) dL_law_389 (c_X8_set hM e8) (M_obj hM) rfl mi_X8_set mv_X8_set kM_L_34 rfl ⟨Nat.le_of_ble_eq_true rfl, Nat.le_of_ble_eq_true rfl⟩ rfl (Nat.le_of_ble_eq_true rfl) ?_
  refine l_icmp_eq Λ (pc := 392) (tgt := 1375) dL_law_392 rfl ?_
  exact kk _ _ hr'
set_option maxRecDepth 100000 in
set_option maxHeartbeats 4000000 in
theorem law_5 {C M : SYS} {G : G2T} {b L : Nat} {xs : Nat → Int32} (Λ : IsL C M G b L xs) (hC : IsC C) (hY : HasX C) (hM : IsM M) (hL : L ≤ 3072) {Rel : Mem → Mem → Prop} (hs : Step Rel C7_5 C8_5) {n : Nat} (hn : n + 6 ≤ L) {μ ν : Mem} (hr : Rel μ ν)
    (kk : ∀ μ' ν', Rel μ' ν' → G 1375 [(0, .ref b), (1, .ref (sq C 0)), (2, .ref (sq M 0)), (3, .int (nI n))] [] μ' ν') : G 397 [(0, .ref b), (1, .ref (sq C 0)), (2, .ref (sq M 0)), (3, .int (nI n))] [] μ ν := by
  obtain ⟨r, μ', ν', e7, e8, hr'⟩ := hs (fun j => xs (n + j)) μ ν hr
  unfold C7_5 at e7
  unfold C8_5 at e8
  try dsimp only at e7 e8
  refine l_aload_n Λ (pc := 397) 1 dL_law_397 rfl rfl ?_
  refine l_aload_n Λ (pc := 398) 0 dL_law_398 rfl rfl ?_
  refine l_iload_n Λ (pc := 399) 3 dL_law_399 rfl rfl ?_
  refine l_iconst Λ (pc := 400) (v := nI 1) dL_law_400 rfl ?_
  refine l_iadd Λ (pc := 401) dL_law_401 ?_
  rw [nI_add]
  refine l_sld Λ (pc := 402) dL_law_402 (vp_in_nI (by omega) (by omega)) ?_
  rw [nI_clamp (by omega)]
  refine l_aload_n Λ (pc := 403) 0 dL_law_403 rfl rfl ?_
  refine l_iload_n Λ (pc := 404) 3 dL_law_404 rfl rfl ?_
  refine l_iconst Λ (pc := 405) (v := nI 2) dL_law_405 rfl ?_
  refine l_iadd Λ (pc := 406) dL_law_406 ?_
  rw [nI_add]
  refine l_sld Λ (pc := 407) dL_law_407 (vp_in_nI (by omega) (by omega)) ?_
  rw [nI_clamp (by omega)]
  refine l_aload_n Λ (pc := 408) 0 dL_law_408 rfl rfl ?_
  refine l_iload_n Λ (pc := 409) 3 dL_law_409 rfl rfl ?_
  refine l_iconst Λ (pc := 410) (v := nI 3) dL_law_410 rfl ?_
  refine l_iadd Λ (pc := 411) dL_law_411 ?_
  rw [nI_add]
  refine l_sld Λ (pc := 412) dL_law_412 (vp_in_nI (by omega) (by omega)) ?_
  rw [nI_clamp (by omega)]
  refine l_callC Λ (pc := 413) (as := [.int (xs (n + 1)), .int (xs (n + 2)), .int (xs (n + 3))]) (st := []) dL_law_413 (c_X7_friends hC e7) (C_main hC) rfl mi_X7_friends mv_X7_friends kM_L_35 rfl ⟨Nat.le_of_ble_eq_true rfl, Nat.le_of_ble_eq_true rfl⟩ rfl (Nat.le_of_ble_eq_true rfl) ?_
  refine l_aload_n Λ (pc := 416) 2 dL_law_416 rfl rfl ?_
  refine l_aload_n Λ (pc := 417) 0 dL_law_417 rfl rfl ?_
  refine l_iload_n Λ (pc := 418) 3 dL_law_418 rfl rfl ?_
  refine l_iconst Λ (pc := 419) (v := nI 1) dL_law_419 rfl ?_
  refine l_iadd Λ (pc := 420) dL_law_420 ?_
  rw [nI_add]
  refine l_sld Λ (pc := 421) dL_law_421 (vp_in_nI (by omega) (by omega)) ?_
  rw [nI_clamp (by omega)]
  refine l_aload_n Λ (pc := 422) 0 dL_law_422 rfl rfl ?_
  refine l_iload_n Λ (pc := 423) 3 dL_law_423 rfl rfl ?_
  refine l_iconst Λ (pc := 424) (v := nI 2) dL_law_424 rfl ?_
  refine l_iadd Λ (pc := 425) dL_law_425 ?_
  rw [nI_add]
  refine l_sld Λ (pc := 426) dL_law_426 (vp_in_nI (by omega) (by omega)) ?_
  rw [nI_clamp (by omega)]
  refine l_aload_n Λ (pc := 427) 0 dL_law_427 rfl rfl ?_
  refine l_iload_n Λ (pc := 428) 3 dL_law_428 rfl rfl ?_
  refine l_iconst Λ (pc := 429) (v := nI 3) dL_law_429 rfl ?_
  refine l_iadd Λ (pc := 430) dL_law_430 ?_
  rw [nI_add]
  refine l_sld Λ (pc := 431) dL_law_431 (vp_in_nI (by omega) (by omega)) ?_
  rw [nI_clamp (by omega)]
  refine l_callM Λ (pc := 432) (as := [.int (xs (n + 1)), .int (xs (n + 2)), .int (xs (n + 3))]) (st := [.int r]) dL_law_432 (c_X8_friends hM e8) (M_obj hM) rfl mi_X8_friends mv_X8_friends kM_L_38 rfl ⟨Nat.le_of_ble_eq_true rfl, Nat.le_of_ble_eq_true rfl⟩ rfl (Nat.le_of_ble_eq_true rfl) ?_
  refine l_icmp_eq Λ (pc := 435) (tgt := 1375) dL_law_435 rfl ?_
  exact kk _ _ hr'
set_option maxRecDepth 100000 in
set_option maxHeartbeats 4000000 in
theorem law_6 {C M : SYS} {G : G2T} {b L : Nat} {xs : Nat → Int32} (Λ : IsL C M G b L xs) (hC : IsC C) (hY : HasX C) (hM : IsM M) (hL : L ≤ 3072) {Rel : Mem → Mem → Prop} (hs : Step Rel C7_6 C8_6) {n : Nat} (hn : n + 6 ≤ L) {μ ν : Mem} (hr : Rel μ ν)
    (kk : ∀ μ' ν', Rel μ' ν' → G 1375 [(0, .ref b), (1, .ref (sq C 0)), (2, .ref (sq M 0)), (3, .int (nI n))] [] μ' ν') : G 440 [(0, .ref b), (1, .ref (sq C 0)), (2, .ref (sq M 0)), (3, .int (nI n))] [] μ ν := by
  obtain ⟨r, μ', ν', e7, e8, hr'⟩ := hs (fun j => xs (n + j)) μ ν hr
  unfold C7_6 at e7
  unfold C8_6 at e8
  try dsimp only at e7 e8
  refine l_aload_n Λ (pc := 440) 1 dL_law_440 rfl rfl ?_
  refine l_aload_n Λ (pc := 441) 0 dL_law_441 rfl rfl ?_
  refine l_iload_n Λ (pc := 442) 3 dL_law_442 rfl rfl ?_
  refine l_iconst Λ (pc := 443) (v := nI 1) dL_law_443 rfl ?_
  refine l_iadd Λ (pc := 444) dL_law_444 ?_
  rw [nI_add]
  refine l_sld Λ (pc := 445) dL_law_445 (vp_in_nI (by omega) (by omega)) ?_
  rw [nI_clamp (by omega)]
  refine l_aload_n Λ (pc := 446) 0 dL_law_446 rfl rfl ?_
  refine l_iload_n Λ (pc := 447) 3 dL_law_447 rfl rfl ?_
  refine l_iconst Λ (pc := 448) (v := nI 2) dL_law_448 rfl ?_
  refine l_iadd Λ (pc := 449) dL_law_449 ?_
  rw [nI_add]
  refine l_sld Λ (pc := 450) dL_law_450 (vp_in_nI (by omega) (by omega)) ?_
  rw [nI_clamp (by omega)]
  refine l_callC Λ (pc := 451) (as := [.int (xs (n + 1)), .int (xs (n + 2))]) (st := []) dL_law_451 (c_X7_rule hC e7) (C_main hC) rfl mi_X7_rule mv_X7_rule kM_L_39 rfl ⟨Nat.le_of_ble_eq_true rfl, Nat.le_of_ble_eq_true rfl⟩ rfl (Nat.le_of_ble_eq_true rfl) ?_
  refine l_aload_n Λ (pc := 454) 2 dL_law_454 rfl rfl ?_
  refine l_aload_n Λ (pc := 455) 0 dL_law_455 rfl rfl ?_
  refine l_iload_n Λ (pc := 456) 3 dL_law_456 rfl rfl ?_
  refine l_iconst Λ (pc := 457) (v := nI 1) dL_law_457 rfl ?_
  refine l_iadd Λ (pc := 458) dL_law_458 ?_
  rw [nI_add]
  refine l_sld Λ (pc := 459) dL_law_459 (vp_in_nI (by omega) (by omega)) ?_
  rw [nI_clamp (by omega)]
  refine l_aload_n Λ (pc := 460) 0 dL_law_460 rfl rfl ?_
  refine l_iload_n Λ (pc := 461) 3 dL_law_461 rfl rfl ?_
  refine l_iconst Λ (pc := 462) (v := nI 2) dL_law_462 rfl ?_
  refine l_iadd Λ (pc := 463) dL_law_463 ?_
  rw [nI_add]
  refine l_sld Λ (pc := 464) dL_law_464 (vp_in_nI (by omega) (by omega)) ?_
  rw [nI_clamp (by omega)]
  refine l_callM Λ (pc := 465) (as := [.int (xs (n + 1)), .int (xs (n + 2))]) (st := [.int r]) dL_law_465 (c_X8_rule hM e8) (M_obj hM) rfl mi_X8_rule mv_X8_rule kM_L_42 rfl ⟨Nat.le_of_ble_eq_true rfl, Nat.le_of_ble_eq_true rfl⟩ rfl (Nat.le_of_ble_eq_true rfl) ?_
  refine l_icmp_eq Λ (pc := 468) (tgt := 1375) dL_law_468 rfl ?_
  exact kk _ _ hr'
set_option maxRecDepth 100000 in
set_option maxHeartbeats 4000000 in
theorem law_7 {C M : SYS} {G : G2T} {b L : Nat} {xs : Nat → Int32} (Λ : IsL C M G b L xs) (hC : IsC C) (hY : HasX C) (hM : IsM M) (hL : L ≤ 3072) {Rel : Mem → Mem → Prop} (hs : Step Rel C7_7 C8_7) {n : Nat} (hn : n + 6 ≤ L) {μ ν : Mem} (hr : Rel μ ν)
    (kk : ∀ μ' ν', Rel μ' ν' → G 1375 [(0, .ref b), (1, .ref (sq C 0)), (2, .ref (sq M 0)), (3, .int (nI n))] [] μ' ν') : G 473 [(0, .ref b), (1, .ref (sq C 0)), (2, .ref (sq M 0)), (3, .int (nI n))] [] μ ν := by
  obtain ⟨r, μ', ν', e7, e8, hr'⟩ := hs (fun j => xs (n + j)) μ ν hr
  unfold C7_7 at e7
  unfold C8_7 at e8
  try dsimp only at e7 e8
  refine l_aload_n Λ (pc := 473) 1 dL_law_473 rfl rfl ?_
  refine l_aload_n Λ (pc := 474) 0 dL_law_474 rfl rfl ?_
  refine l_iload_n Λ (pc := 475) 3 dL_law_475 rfl rfl ?_
  refine l_iconst Λ (pc := 476) (v := nI 1) dL_law_476 rfl ?_
  refine l_iadd Λ (pc := 477) dL_law_477 ?_
  rw [nI_add]
  refine l_sld Λ (pc := 478) dL_law_478 (vp_in_nI (by omega) (by omega)) ?_
  rw [nI_clamp (by omega)]
  refine l_callC Λ (pc := 479) (as := [.int (xs (n + 1))]) (st := []) dL_law_479 (c_X7_deal hC e7) (C_main hC) rfl mi_X7_deal mv_X7_deal kM_L_43 rfl ⟨Nat.le_of_ble_eq_true rfl, Nat.le_of_ble_eq_true rfl⟩ rfl (Nat.le_of_ble_eq_true rfl) ?_
  refine l_aload_n Λ (pc := 482) 2 dL_law_482 rfl rfl ?_
  refine l_aload_n Λ (pc := 483) 0 dL_law_483 rfl rfl ?_
  refine l_iload_n Λ (pc := 484) 3 dL_law_484 rfl rfl ?_
  refine l_iconst Λ (pc := 485) (v := nI 1) dL_law_485 rfl ?_
  refine l_iadd Λ (pc := 486) dL_law_486 ?_
  rw [nI_add]
  refine l_sld Λ (pc := 487) dL_law_487 (vp_in_nI (by omega) (by omega)) ?_
  rw [nI_clamp (by omega)]
  refine l_callM Λ (pc := 488) (as := [.int (xs (n + 1))]) (st := [.int r]) dL_law_488 (c_X8_deal hM e8) (M_obj hM) rfl mi_X8_deal mv_X8_deal kM_L_47 rfl ⟨Nat.le_of_ble_eq_true rfl, Nat.le_of_ble_eq_true rfl⟩ rfl (Nat.le_of_ble_eq_true rfl) ?_
  refine l_icmp_eq Λ (pc := 491) (tgt := 1375) dL_law_491 rfl ?_
  exact kk _ _ hr'
set_option maxRecDepth 100000 in
set_option maxHeartbeats 4000000 in
theorem law_8 {C M : SYS} {G : G2T} {b L : Nat} {xs : Nat → Int32} (Λ : IsL C M G b L xs) (hC : IsC C) (hY : HasX C) (hM : IsM M) (hL : L ≤ 3072) {Rel : Mem → Mem → Prop} (hs : Step Rel C7_8 C8_8) {n : Nat} (hn : n + 6 ≤ L) {μ ν : Mem} (hr : Rel μ ν)
    (kk : ∀ μ' ν', Rel μ' ν' → G 1375 [(0, .ref b), (1, .ref (sq C 0)), (2, .ref (sq M 0)), (3, .int (nI n))] [] μ' ν') : G 496 [(0, .ref b), (1, .ref (sq C 0)), (2, .ref (sq M 0)), (3, .int (nI n))] [] μ ν := by
  obtain ⟨r, μ', ν', e7, e8, hr'⟩ := hs (fun j => xs (n + j)) μ ν hr
  unfold C7_8 at e7
  unfold C8_8 at e8
  try dsimp only at e7 e8
  refine l_aload_n Λ (pc := 496) 1 dL_law_496 rfl rfl ?_
  refine l_aload_n Λ (pc := 497) 0 dL_law_497 rfl rfl ?_
  refine l_iload_n Λ (pc := 498) 3 dL_law_498 rfl rfl ?_
  refine l_iconst Λ (pc := 499) (v := nI 1) dL_law_499 rfl ?_
  refine l_iadd Λ (pc := 500) dL_law_500 ?_
  rw [nI_add]
  refine l_sld Λ (pc := 501) dL_law_501 (vp_in_nI (by omega) (by omega)) ?_
  rw [nI_clamp (by omega)]
  refine l_callC Λ (pc := 502) (as := [.int (xs (n + 1))]) (st := []) dL_law_502 (c_X7_seed hC e7) (C_main hC) rfl mi_X7_seed mv_X7_seed kM_L_48 rfl ⟨Nat.le_of_ble_eq_true rfl, Nat.le_of_ble_eq_true rfl⟩ rfl (Nat.le_of_ble_eq_true rfl) ?_
  refine l_aload_n Λ (pc := 505) 2 dL_law_505 rfl rfl ?_
  refine l_aload_n Λ (pc := 506) 0 dL_law_506 rfl rfl ?_
  refine l_iload_n Λ (pc := 507) 3 dL_law_507 rfl rfl ?_
  refine l_iconst Λ (pc := 508) (v := nI 1) dL_law_508 rfl ?_
  refine l_iadd Λ (pc := 509) dL_law_509 ?_
  rw [nI_add]
  refine l_sld Λ (pc := 510) dL_law_510 (vp_in_nI (by omega) (by omega)) ?_
  rw [nI_clamp (by omega)]
  refine l_callM Λ (pc := 511) (as := [.int (xs (n + 1))]) (st := [.int r]) dL_law_511 (c_X8_seed hM e8) (M_obj hM) rfl mi_X8_seed mv_X8_seed kM_L_51 rfl ⟨Nat.le_of_ble_eq_true rfl, Nat.le_of_ble_eq_true rfl⟩ rfl (Nat.le_of_ble_eq_true rfl) ?_
  refine l_icmp_eq Λ (pc := 514) (tgt := 1375) dL_law_514 rfl ?_
  exact kk _ _ hr'
set_option maxRecDepth 100000 in
set_option maxHeartbeats 4000000 in
theorem law_9 {C M : SYS} {G : G2T} {b L : Nat} {xs : Nat → Int32} (Λ : IsL C M G b L xs) (hC : IsC C) (hY : HasX C) (hM : IsM M) (hL : L ≤ 3072) {Rel : Mem → Mem → Prop} (hs : Step Rel C7_9 C8_9) {n : Nat} (hn : n + 6 ≤ L) {μ ν : Mem} (hr : Rel μ ν)
    (kk : ∀ μ' ν', Rel μ' ν' → G 1375 [(0, .ref b), (1, .ref (sq C 0)), (2, .ref (sq M 0)), (3, .int (nI n))] [] μ' ν') : G 519 [(0, .ref b), (1, .ref (sq C 0)), (2, .ref (sq M 0)), (3, .int (nI n))] [] μ ν := by
  obtain ⟨r, μ', ν', e7, e8, hr'⟩ := hs (fun j => xs (n + j)) μ ν hr
  unfold C7_9 at e7
  unfold C8_9 at e8
  try dsimp only at e7 e8
  obtain ⟨e7, rfl⟩ := ro_i e7
  obtain ⟨e8, rfl⟩ := ro_i e8
  refine l_aload_n Λ (pc := 519) 1 dL_law_519 rfl rfl ?_
  refine l_aload_n Λ (pc := 520) 0 dL_law_520 rfl rfl ?_
  refine l_iload_n Λ (pc := 521) 3 dL_law_521 rfl rfl ?_
  refine l_iconst Λ (pc := 522) (v := nI 1) dL_law_522 rfl ?_
  refine l_iadd Λ (pc := 523) dL_law_523 ?_
  rw [nI_add]
  refine l_sld Λ (pc := 524) dL_law_524 (vp_in_nI (by omega) (by omega)) ?_
  rw [nI_clamp (by omega)]
  refine l_callC Λ (pc := 525) (as := [.int (xs (n + 1))]) (st := []) dL_law_525 (c_X7_town hC e7) (C_main hC) rfl mi_X7_town mv_X7_town kM_L_52 rfl ⟨Nat.le_of_ble_eq_true rfl, Nat.le_of_ble_eq_true rfl⟩ rfl (Nat.le_of_ble_eq_true rfl) ?_
  refine l_aload_n Λ (pc := 528) 2 dL_law_528 rfl rfl ?_
  refine l_aload_n Λ (pc := 529) 0 dL_law_529 rfl rfl ?_
  refine l_iload_n Λ (pc := 530) 3 dL_law_530 rfl rfl ?_
  refine l_iconst Λ (pc := 531) (v := nI 1) dL_law_531 rfl ?_
  refine l_iadd Λ (pc := 532) dL_law_532 ?_
  rw [nI_add]
  refine l_sld Λ (pc := 533) dL_law_533 (vp_in_nI (by omega) (by omega)) ?_
  rw [nI_clamp (by omega)]
  refine l_callM Λ (pc := 534) (as := [.int (xs (n + 1))]) (st := [.int r]) dL_law_534 (c_X8_town hM e8) (M_obj hM) rfl mi_X8_town mv_X8_town kM_L_55 rfl ⟨Nat.le_of_ble_eq_true rfl, Nat.le_of_ble_eq_true rfl⟩ rfl (Nat.le_of_ble_eq_true rfl) ?_
  refine l_icmp_eq Λ (pc := 537) (tgt := 1375) dL_law_537 rfl ?_
  exact kk _ _ hr'
set_option maxRecDepth 100000 in
set_option maxHeartbeats 4000000 in
theorem law_10 {C M : SYS} {G : G2T} {b L : Nat} {xs : Nat → Int32} (Λ : IsL C M G b L xs) (hC : IsC C) (hY : HasX C) (hM : IsM M) (hL : L ≤ 3072) {Rel : Mem → Mem → Prop} (hs : Step Rel C7_10 C8_10) {n : Nat} (hn : n + 6 ≤ L) {μ ν : Mem} (hr : Rel μ ν)
    (kk : ∀ μ' ν', Rel μ' ν' → G 1375 [(0, .ref b), (1, .ref (sq C 0)), (2, .ref (sq M 0)), (3, .int (nI n))] [] μ' ν') : G 542 [(0, .ref b), (1, .ref (sq C 0)), (2, .ref (sq M 0)), (3, .int (nI n))] [] μ ν := by
  obtain ⟨r, μ', ν', e7, e8, hr'⟩ := hs (fun j => xs (n + j)) μ ν hr
  unfold C7_10 at e7
  unfold C8_10 at e8
  try dsimp only at e7 e8
  obtain ⟨e8, rfl⟩ := ro_i e8
  refine l_aload_n Λ (pc := 542) 1 dL_law_542 rfl rfl ?_
  refine l_callC Λ (pc := 543) (as := []) (st := []) dL_law_543 (c_X7_ways hC e7) (C_main hC) rfl mi_X7_ways mv_X7_ways kM_L_56 rfl ⟨Nat.le_of_ble_eq_true rfl, Nat.le_of_ble_eq_true rfl⟩ rfl (Nat.le_of_ble_eq_true rfl) ?_
  refine l_aload_n Λ (pc := 546) 2 dL_law_546 rfl rfl ?_
  refine l_callM Λ (pc := 547) (as := []) (st := [.int r]) dL_law_547 (c_X8_ways hM e8) (M_obj hM) rfl mi_X8_ways mv_X8_ways kM_L_60 rfl ⟨Nat.le_of_ble_eq_true rfl, Nat.le_of_ble_eq_true rfl⟩ rfl (Nat.le_of_ble_eq_true rfl) ?_
  refine l_icmp_eq Λ (pc := 550) (tgt := 1375) dL_law_550 rfl ?_
  exact kk _ _ hr'
set_option maxRecDepth 100000 in
set_option maxHeartbeats 4000000 in
theorem law_11 {C M : SYS} {G : G2T} {b L : Nat} {xs : Nat → Int32} (Λ : IsL C M G b L xs) (hC : IsC C) (hY : HasX C) (hM : IsM M) (hL : L ≤ 3072) {Rel : Mem → Mem → Prop} (hs : Step Rel C7_11 C8_11) {n : Nat} (hn : n + 6 ≤ L) {μ ν : Mem} (hr : Rel μ ν)
    (kk : ∀ μ' ν', Rel μ' ν' → G 1375 [(0, .ref b), (1, .ref (sq C 0)), (2, .ref (sq M 0)), (3, .int (nI n))] [] μ' ν') : G 555 [(0, .ref b), (1, .ref (sq C 0)), (2, .ref (sq M 0)), (3, .int (nI n))] [] μ ν := by
  obtain ⟨r, μ', ν', e7, e8, hr'⟩ := hs (fun j => xs (n + j)) μ ν hr
  unfold C7_11 at e7
  unfold C8_11 at e8
  try dsimp only at e7 e8
  obtain ⟨e8, rfl⟩ := ro_i e8
  refine l_aload_n Λ (pc := 555) 1 dL_law_555 rfl rfl ?_
  refine l_aload_n Λ (pc := 556) 0 dL_law_556 rfl rfl ?_
  refine l_iload_n Λ (pc := 557) 3 dL_law_557 rfl rfl ?_
  refine l_iconst Λ (pc := 558) (v := nI 1) dL_law_558 rfl ?_
  refine l_iadd Λ (pc := 559) dL_law_559 ?_
  rw [nI_add]
  refine l_sld Λ (pc := 560) dL_law_560 (vp_in_nI (by omega) (by omega)) ?_
  rw [nI_clamp (by omega)]
  refine l_callC Λ (pc := 561) (as := [.int (xs (n + 1))]) (st := []) dL_law_561 (c_X7_minds hC e7) (C_main hC) rfl mi_X7_minds mv_X7_minds kM_L_61 rfl ⟨Nat.le_of_ble_eq_true rfl, Nat.le_of_ble_eq_true rfl⟩ rfl (Nat.le_of_ble_eq_true rfl) ?_
  refine l_aload_n Λ (pc := 564) 2 dL_law_564 rfl rfl ?_
  refine l_aload_n Λ (pc := 565) 0 dL_law_565 rfl rfl ?_
  refine l_iload_n Λ (pc := 566) 3 dL_law_566 rfl rfl ?_
  refine l_iconst Λ (pc := 567) (v := nI 1) dL_law_567 rfl ?_
  refine l_iadd Λ (pc := 568) dL_law_568 ?_
  rw [nI_add]
  refine l_sld Λ (pc := 569) dL_law_569 (vp_in_nI (by omega) (by omega)) ?_
  rw [nI_clamp (by omega)]
  refine l_callM Λ (pc := 570) (as := [.int (xs (n + 1))]) (st := [.int r]) dL_law_570 (c_X8_minds hM e8) (M_obj hM) rfl mi_X8_minds mv_X8_minds kM_L_64 rfl ⟨Nat.le_of_ble_eq_true rfl, Nat.le_of_ble_eq_true rfl⟩ rfl (Nat.le_of_ble_eq_true rfl) ?_
  refine l_icmp_eq Λ (pc := 573) (tgt := 1375) dL_law_573 rfl ?_
  exact kk _ _ hr'
set_option maxRecDepth 100000 in
set_option maxHeartbeats 4000000 in
theorem law_12 {C M : SYS} {G : G2T} {b L : Nat} {xs : Nat → Int32} (Λ : IsL C M G b L xs) (hC : IsC C) (hY : HasX C) (hM : IsM M) (hL : L ≤ 3072) {Rel : Mem → Mem → Prop} (hs : Step Rel C7_12 C8_12) {n : Nat} (hn : n + 6 ≤ L) {μ ν : Mem} (hr : Rel μ ν)
    (kk : ∀ μ' ν', Rel μ' ν' → G 1375 [(0, .ref b), (1, .ref (sq C 0)), (2, .ref (sq M 0)), (3, .int (nI n))] [] μ' ν') : G 578 [(0, .ref b), (1, .ref (sq C 0)), (2, .ref (sq M 0)), (3, .int (nI n))] [] μ ν := by
  obtain ⟨r, μ', ν', e7, e8, hr'⟩ := hs (fun j => xs (n + j)) μ ν hr
  unfold C7_12 at e7
  unfold C8_12 at e8
  try dsimp only at e7 e8
  obtain ⟨e8, rfl⟩ := ro_i e8
  refine l_aload_n Λ (pc := 578) 1 dL_law_578 rfl rfl ?_
  refine l_callC Λ (pc := 579) (as := []) (st := []) dL_law_579 (c_X7_freedom hC e7) (C_main hC) rfl mi_X7_freedom mv_X7_freedom kM_L_65 rfl ⟨Nat.le_of_ble_eq_true rfl, Nat.le_of_ble_eq_true rfl⟩ rfl (Nat.le_of_ble_eq_true rfl) ?_
  refine l_aload_n Λ (pc := 582) 2 dL_law_582 rfl rfl ?_
  refine l_callM Λ (pc := 583) (as := []) (st := [.int r]) dL_law_583 (c_X8_freedom hM e8) (M_obj hM) rfl mi_X8_freedom mv_X8_freedom kM_L_68 rfl ⟨Nat.le_of_ble_eq_true rfl, Nat.le_of_ble_eq_true rfl⟩ rfl (Nat.le_of_ble_eq_true rfl) ?_
  refine l_icmp_eq Λ (pc := 586) (tgt := 1375) dL_law_586 rfl ?_
  exact kk _ _ hr'
set_option maxRecDepth 100000 in
set_option maxHeartbeats 4000000 in
theorem law_13 {C M : SYS} {G : G2T} {b L : Nat} {xs : Nat → Int32} (Λ : IsL C M G b L xs) (hC : IsC C) (hY : HasX C) (hM : IsM M) (hL : L ≤ 3072) {Rel : Mem → Mem → Prop} (hs : Step Rel C7_13 C8_13) {n : Nat} (hn : n + 6 ≤ L) {μ ν : Mem} (hr : Rel μ ν)
    (kk : ∀ μ' ν', Rel μ' ν' → G 1375 [(0, .ref b), (1, .ref (sq C 0)), (2, .ref (sq M 0)), (3, .int (nI n))] [] μ' ν') : G 591 [(0, .ref b), (1, .ref (sq C 0)), (2, .ref (sq M 0)), (3, .int (nI n))] [] μ ν := by
  obtain ⟨r, μ', ν', e7, e8, hr'⟩ := hs (fun j => xs (n + j)) μ ν hr
  unfold C7_13 at e7
  unfold C8_13 at e8
  try dsimp only at e7 e8
  obtain ⟨e8, rfl⟩ := ro_i e8
  refine l_aload_n Λ (pc := 591) 1 dL_law_591 rfl rfl ?_
  refine l_callC Λ (pc := 592) (as := []) (st := []) dL_law_592 (c_X7_together hC e7) (C_main hC) rfl mi_X7_together mv_X7_together kM_L_69 rfl ⟨Nat.le_of_ble_eq_true rfl, Nat.le_of_ble_eq_true rfl⟩ rfl (Nat.le_of_ble_eq_true rfl) ?_
  refine l_aload_n Λ (pc := 595) 2 dL_law_595 rfl rfl ?_
  refine l_callM Λ (pc := 596) (as := []) (st := [.int r]) dL_law_596 (c_X8_together hM e8) (M_obj hM) rfl mi_X8_together mv_X8_together kM_L_72 rfl ⟨Nat.le_of_ble_eq_true rfl, Nat.le_of_ble_eq_true rfl⟩ rfl (Nat.le_of_ble_eq_true rfl) ?_
  refine l_icmp_eq Λ (pc := 599) (tgt := 1375) dL_law_599 rfl ?_
  exact kk _ _ hr'
set_option maxRecDepth 100000 in
set_option maxHeartbeats 4000000 in
theorem law_14 {C M : SYS} {G : G2T} {b L : Nat} {xs : Nat → Int32} (Λ : IsL C M G b L xs) (hC : IsC C) (hY : HasX C) (hM : IsM M) (hL : L ≤ 3072) {Rel : Mem → Mem → Prop} (hs : Step Rel C7_14 C8_14) {n : Nat} (hn : n + 6 ≤ L) {μ ν : Mem} (hr : Rel μ ν)
    (kk : ∀ μ' ν', Rel μ' ν' → G 1375 [(0, .ref b), (1, .ref (sq C 0)), (2, .ref (sq M 0)), (3, .int (nI n))] [] μ' ν') : G 604 [(0, .ref b), (1, .ref (sq C 0)), (2, .ref (sq M 0)), (3, .int (nI n))] [] μ ν := by
  obtain ⟨r, μ', ν', e7, e8, hr'⟩ := hs (fun j => xs (n + j)) μ ν hr
  unfold C7_14 at e7
  unfold C8_14 at e8
  try dsimp only at e7 e8
  refine l_aload_n Λ (pc := 604) 1 dL_law_604 rfl rfl ?_
  refine l_aload_n Λ (pc := 605) 0 dL_law_605 rfl rfl ?_
  refine l_iload_n Λ (pc := 606) 3 dL_law_606 rfl rfl ?_
  refine l_iconst Λ (pc := 607) (v := nI 1) dL_law_607 rfl ?_
  refine l_iadd Λ (pc := 608) dL_law_608 ?_
  rw [nI_add]
  refine l_sld Λ (pc := 609) dL_law_609 (vp_in_nI (by omega) (by omega)) ?_
  rw [nI_clamp (by omega)]
  refine l_aload_n Λ (pc := 610) 0 dL_law_610 rfl rfl ?_
  refine l_iload_n Λ (pc := 611) 3 dL_law_611 rfl rfl ?_
  refine l_iconst Λ (pc := 612) (v := nI 2) dL_law_612 rfl ?_
  refine l_iadd Λ (pc := 613) dL_law_613 ?_
  rw [nI_add]
  refine l_sld Λ (pc := 614) dL_law_614 (vp_in_nI (by omega) (by omega)) ?_
  rw [nI_clamp (by omega)]
  refine l_callC Λ (pc := 615) (as := [.int (xs (n + 1)), .int (xs (n + 2))]) (st := []) dL_law_615 (c_X7_best hC e7) (C_main hC) rfl mi_X7_best mv_X7_best kM_L_73 rfl ⟨Nat.le_of_ble_eq_true rfl, Nat.le_of_ble_eq_true rfl⟩ rfl (Nat.le_of_ble_eq_true rfl) ?_
  refine l_aload_n Λ (pc := 618) 2 dL_law_618 rfl rfl ?_
  refine l_aload_n Λ (pc := 619) 0 dL_law_619 rfl rfl ?_
  refine l_iload_n Λ (pc := 620) 3 dL_law_620 rfl rfl ?_
  refine l_iconst Λ (pc := 621) (v := nI 1) dL_law_621 rfl ?_
  refine l_iadd Λ (pc := 622) dL_law_622 ?_
  rw [nI_add]
  refine l_sld Λ (pc := 623) dL_law_623 (vp_in_nI (by omega) (by omega)) ?_
  rw [nI_clamp (by omega)]
  refine l_aload_n Λ (pc := 624) 0 dL_law_624 rfl rfl ?_
  refine l_iload_n Λ (pc := 625) 3 dL_law_625 rfl rfl ?_
  refine l_iconst Λ (pc := 626) (v := nI 2) dL_law_626 rfl ?_
  refine l_iadd Λ (pc := 627) dL_law_627 ?_
  rw [nI_add]
  refine l_sld Λ (pc := 628) dL_law_628 (vp_in_nI (by omega) (by omega)) ?_
  rw [nI_clamp (by omega)]
  refine l_callM Λ (pc := 629) (as := [.int (xs (n + 1)), .int (xs (n + 2))]) (st := [.int r]) dL_law_629 (c_X8_best hM e8) (M_obj hM) rfl mi_X8_best mv_X8_best kM_L_76 rfl ⟨Nat.le_of_ble_eq_true rfl, Nat.le_of_ble_eq_true rfl⟩ rfl (Nat.le_of_ble_eq_true rfl) ?_
  refine l_icmp_eq Λ (pc := 632) (tgt := 1375) dL_law_632 rfl ?_
  exact kk _ _ hr'
set_option maxRecDepth 100000 in
set_option maxHeartbeats 4000000 in
theorem law_15 {C M : SYS} {G : G2T} {b L : Nat} {xs : Nat → Int32} (Λ : IsL C M G b L xs) (hC : IsC C) (hY : HasX C) (hM : IsM M) (hL : L ≤ 3072) {Rel : Mem → Mem → Prop} (hs : Step Rel C7_15 C8_15) {n : Nat} (hn : n + 6 ≤ L) {μ ν : Mem} (hr : Rel μ ν)
    (kk : ∀ μ' ν', Rel μ' ν' → G 1375 [(0, .ref b), (1, .ref (sq C 0)), (2, .ref (sq M 0)), (3, .int (nI n))] [] μ' ν') : G 637 [(0, .ref b), (1, .ref (sq C 0)), (2, .ref (sq M 0)), (3, .int (nI n))] [] μ ν := by
  obtain ⟨r, μ', ν', e7, e8, hr'⟩ := hs (fun j => xs (n + j)) μ ν hr
  unfold C7_15 at e7
  unfold C8_15 at e8
  try dsimp only at e7 e8
  refine l_aload_n Λ (pc := 637) 1 dL_law_637 rfl rfl ?_
  refine l_aload_n Λ (pc := 638) 0 dL_law_638 rfl rfl ?_
  refine l_iload_n Λ (pc := 639) 3 dL_law_639 rfl rfl ?_
  refine l_iconst Λ (pc := 640) (v := nI 1) dL_law_640 rfl ?_
  refine l_iadd Λ (pc := 641) dL_law_641 ?_
  rw [nI_add]
  refine l_sld Λ (pc := 642) dL_law_642 (vp_in_nI (by omega) (by omega)) ?_
  rw [nI_clamp (by omega)]
  refine l_callC Λ (pc := 643) (as := [.int (xs (n + 1))]) (st := []) dL_law_643 (c_X7_years hC e7) (C_main hC) rfl mi_X7_years mv_X7_years kM_L_77 rfl ⟨Nat.le_of_ble_eq_true rfl, Nat.le_of_ble_eq_true rfl⟩ rfl (Nat.le_of_ble_eq_true rfl) ?_
  refine l_aload_n Λ (pc := 646) 2 dL_law_646 rfl rfl ?_
  refine l_aload_n Λ (pc := 647) 0 dL_law_647 rfl rfl ?_
  refine l_iload_n Λ (pc := 648) 3 dL_law_648 rfl rfl ?_
  refine l_iconst Λ (pc := 649) (v := nI 1) dL_law_649 rfl ?_
  refine l_iadd Λ (pc := 650) dL_law_650 ?_
  rw [nI_add]
  refine l_sld Λ (pc := 651) dL_law_651 (vp_in_nI (by omega) (by omega)) ?_
  rw [nI_clamp (by omega)]
  refine l_callM Λ (pc := 652) (as := [.int (xs (n + 1))]) (st := [.int r]) dL_law_652 (c_X8_years hM e8) (M_obj hM) rfl mi_X8_years mv_X8_years kM_L_80 rfl ⟨Nat.le_of_ble_eq_true rfl, Nat.le_of_ble_eq_true rfl⟩ rfl (Nat.le_of_ble_eq_true rfl) ?_
  refine l_icmp_eq Λ (pc := 655) (tgt := 1375) dL_law_655 rfl ?_
  exact kk _ _ hr'
set_option maxRecDepth 100000 in
set_option maxHeartbeats 4000000 in
theorem law_16 {C M : SYS} {G : G2T} {b L : Nat} {xs : Nat → Int32} (Λ : IsL C M G b L xs) (hC : IsC C) (hY : HasX C) (hM : IsM M) (hL : L ≤ 3072) {Rel : Mem → Mem → Prop} (hs : Step Rel C7_16 C8_16) {n : Nat} (hn : n + 6 ≤ L) {μ ν : Mem} (hr : Rel μ ν)
    (kk : ∀ μ' ν', Rel μ' ν' → G 1375 [(0, .ref b), (1, .ref (sq C 0)), (2, .ref (sq M 0)), (3, .int (nI n))] [] μ' ν') : G 660 [(0, .ref b), (1, .ref (sq C 0)), (2, .ref (sq M 0)), (3, .int (nI n))] [] μ ν := by
  obtain ⟨r, μ', ν', e7, e8, hr'⟩ := hs (fun j => xs (n + j)) μ ν hr
  unfold C7_16 at e7
  unfold C8_16 at e8
  try dsimp only at e7 e8
  refine l_aload_n Λ (pc := 660) 1 dL_law_660 rfl rfl ?_
  refine l_aload_n Λ (pc := 661) 0 dL_law_661 rfl rfl ?_
  refine l_iload_n Λ (pc := 662) 3 dL_law_662 rfl rfl ?_
  refine l_iconst Λ (pc := 663) (v := nI 1) dL_law_663 rfl ?_
  refine l_iadd Λ (pc := 664) dL_law_664 ?_
  rw [nI_add]
  refine l_sld Λ (pc := 665) dL_law_665 (vp_in_nI (by omega) (by omega)) ?_
  rw [nI_clamp (by omega)]
  refine l_aload_n Λ (pc := 666) 0 dL_law_666 rfl rfl ?_
  refine l_iload_n Λ (pc := 667) 3 dL_law_667 rfl rfl ?_
  refine l_iconst Λ (pc := 668) (v := nI 2) dL_law_668 rfl ?_
  refine l_iadd Λ (pc := 669) dL_law_669 ?_
  rw [nI_add]
  refine l_sld Λ (pc := 670) dL_law_670 (vp_in_nI (by omega) (by omega)) ?_
  rw [nI_clamp (by omega)]
  refine l_callC Λ (pc := 671) (as := [.int (xs (n + 1)), .int (xs (n + 2))]) (st := []) dL_law_671 (c_X7_behind hC e7) (C_main hC) rfl mi_X7_behind mv_X7_behind kM_L_81 rfl ⟨Nat.le_of_ble_eq_true rfl, Nat.le_of_ble_eq_true rfl⟩ rfl (Nat.le_of_ble_eq_true rfl) ?_
  refine l_aload_n Λ (pc := 674) 2 dL_law_674 rfl rfl ?_
  refine l_aload_n Λ (pc := 675) 0 dL_law_675 rfl rfl ?_
  refine l_iload_n Λ (pc := 676) 3 dL_law_676 rfl rfl ?_
  refine l_iconst Λ (pc := 677) (v := nI 1) dL_law_677 rfl ?_
  refine l_iadd Λ (pc := 678) dL_law_678 ?_
  rw [nI_add]
  refine l_sld Λ (pc := 679) dL_law_679 (vp_in_nI (by omega) (by omega)) ?_
  rw [nI_clamp (by omega)]
  refine l_aload_n Λ (pc := 680) 0 dL_law_680 rfl rfl ?_
  refine l_iload_n Λ (pc := 681) 3 dL_law_681 rfl rfl ?_
  refine l_iconst Λ (pc := 682) (v := nI 2) dL_law_682 rfl ?_
  refine l_iadd Λ (pc := 683) dL_law_683 ?_
  rw [nI_add]
  refine l_sld Λ (pc := 684) dL_law_684 (vp_in_nI (by omega) (by omega)) ?_
  rw [nI_clamp (by omega)]
  refine l_callM Λ (pc := 685) (as := [.int (xs (n + 1)), .int (xs (n + 2))]) (st := [.int r]) dL_law_685 (c_X8_behind hM e8) (M_obj hM) rfl mi_X8_behind mv_X8_behind kM_L_84 rfl ⟨Nat.le_of_ble_eq_true rfl, Nat.le_of_ble_eq_true rfl⟩ rfl (Nat.le_of_ble_eq_true rfl) ?_
  refine l_icmp_eq Λ (pc := 688) (tgt := 1375) dL_law_688 rfl ?_
  exact kk _ _ hr'
set_option maxRecDepth 100000 in
set_option maxHeartbeats 4000000 in
theorem law_17 {C M : SYS} {G : G2T} {b L : Nat} {xs : Nat → Int32} (Λ : IsL C M G b L xs) (hC : IsC C) (hY : HasX C) (hM : IsM M) (hL : L ≤ 3072) {Rel : Mem → Mem → Prop} (hs : Step Rel C7_17 C8_17) {n : Nat} (hn : n + 6 ≤ L) {μ ν : Mem} (hr : Rel μ ν)
    (kk : ∀ μ' ν', Rel μ' ν' → G 1375 [(0, .ref b), (1, .ref (sq C 0)), (2, .ref (sq M 0)), (3, .int (nI n))] [] μ' ν') : G 693 [(0, .ref b), (1, .ref (sq C 0)), (2, .ref (sq M 0)), (3, .int (nI n))] [] μ ν := by
  obtain ⟨r, μ', ν', e7, e8, hr'⟩ := hs (fun j => xs (n + j)) μ ν hr
  unfold C7_17 at e7
  unfold C8_17 at e8
  try dsimp only at e7 e8
  refine l_aload_n Λ (pc := 693) 1 dL_law_693 rfl rfl ?_
  refine l_callC Λ (pc := 694) (as := []) (st := []) dL_law_694 (c_X7_settles hC e7) (C_main hC) rfl mi_X7_settles mv_X7_settles kM_L_85 rfl ⟨Nat.le_of_ble_eq_true rfl, Nat.le_of_ble_eq_true rfl⟩ rfl (Nat.le_of_ble_eq_true rfl) ?_
  refine l_aload_n Λ (pc := 697) 2 dL_law_697 rfl rfl ?_
  refine l_callM Λ (pc := 698) (as := []) (st := [.int r]) dL_law_698 (c_X8_settles hM e8) (M_obj hM) rfl mi_X8_settles mv_X8_settles kM_L_88 rfl ⟨Nat.le_of_ble_eq_true rfl, Nat.le_of_ble_eq_true rfl⟩ rfl (Nat.le_of_ble_eq_true rfl) ?_
  refine l_icmp_eq Λ (pc := 701) (tgt := 1375) dL_law_701 rfl ?_
  exact kk _ _ hr'
set_option maxRecDepth 100000 in
set_option maxHeartbeats 4000000 in
theorem law_18 {C M : SYS} {G : G2T} {b L : Nat} {xs : Nat → Int32} (Λ : IsL C M G b L xs) (hC : IsC C) (hY : HasX C) (hM : IsM M) (hL : L ≤ 3072) {Rel : Mem → Mem → Prop} (hs : Step Rel C7_18 C8_18) {n : Nat} (hn : n + 6 ≤ L) {μ ν : Mem} (hr : Rel μ ν)
    (kk : ∀ μ' ν', Rel μ' ν' → G 1375 [(0, .ref b), (1, .ref (sq C 0)), (2, .ref (sq M 0)), (3, .int (nI n))] [] μ' ν') : G 706 [(0, .ref b), (1, .ref (sq C 0)), (2, .ref (sq M 0)), (3, .int (nI n))] [] μ ν := by
  obtain ⟨r, μ', ν', e7, e8, hr'⟩ := hs (fun j => xs (n + j)) μ ν hr
  unfold C7_18 at e7
  unfold C8_18 at e8
  try dsimp only at e7 e8
  refine l_aload_n Λ (pc := 706) 1 dL_law_706 rfl rfl ?_
  refine l_aload_n Λ (pc := 707) 0 dL_law_707 rfl rfl ?_
  refine l_iload_n Λ (pc := 708) 3 dL_law_708 rfl rfl ?_
  refine l_iconst Λ (pc := 709) (v := nI 1) dL_law_709 rfl ?_
  refine l_iadd Λ (pc := 710) dL_law_710 ?_
  rw [nI_add]
  refine l_sld Λ (pc := 711) dL_law_711 (vp_in_nI (by omega) (by omega)) ?_
  rw [nI_clamp (by omega)]
  refine l_aload_n Λ (pc := 712) 0 dL_law_712 rfl rfl ?_
  refine l_iload_n Λ (pc := 713) 3 dL_law_713 rfl rfl ?_
  refine l_iconst Λ (pc := 714) (v := nI 2) dL_law_714 rfl ?_
  refine l_iadd Λ (pc := 715) dL_law_715 ?_
  rw [nI_add]
  refine l_sld Λ (pc := 716) dL_law_716 (vp_in_nI (by omega) (by omega)) ?_
  rw [nI_clamp (by omega)]
  refine l_callC Λ (pc := 717) (as := [.int (xs (n + 1)), .int (xs (n + 2))]) (st := []) dL_law_717 (c_X7_won hC e7) (C_main hC) rfl mi_X7_won mv_X7_won kM_L_89 rfl ⟨Nat.le_of_ble_eq_true rfl, Nat.le_of_ble_eq_true rfl⟩ rfl (Nat.le_of_ble_eq_true rfl) ?_
  refine l_aload_n Λ (pc := 720) 2 dL_law_720 rfl rfl ?_
  refine l_aload_n Λ (pc := 721) 0 dL_law_721 rfl rfl ?_
  refine l_iload_n Λ (pc := 722) 3 dL_law_722 rfl rfl ?_
  refine l_iconst Λ (pc := 723) (v := nI 1) dL_law_723 rfl ?_
  refine l_iadd Λ (pc := 724) dL_law_724 ?_
  rw [nI_add]
  refine l_sld Λ (pc := 725) dL_law_725 (vp_in_nI (by omega) (by omega)) ?_
  rw [nI_clamp (by omega)]
  refine l_aload_n Λ (pc := 726) 0 dL_law_726 rfl rfl ?_
  refine l_iload_n Λ (pc := 727) 3 dL_law_727 rfl rfl ?_
  refine l_iconst Λ (pc := 728) (v := nI 2) dL_law_728 rfl ?_
  refine l_iadd Λ (pc := 729) dL_law_729 ?_
  rw [nI_add]
  refine l_sld Λ (pc := 730) dL_law_730 (vp_in_nI (by omega) (by omega)) ?_
  rw [nI_clamp (by omega)]
  refine l_callM Λ (pc := 731) (as := [.int (xs (n + 1)), .int (xs (n + 2))]) (st := [.int r]) dL_law_731 (c_X8_won hM e8) (M_obj hM) rfl mi_X8_won mv_X8_won kM_L_92 rfl ⟨Nat.le_of_ble_eq_true rfl, Nat.le_of_ble_eq_true rfl⟩ rfl (Nat.le_of_ble_eq_true rfl) ?_
  refine l_icmp_eq Λ (pc := 734) (tgt := 1375) dL_law_734 rfl ?_
  exact kk _ _ hr'
set_option maxRecDepth 100000 in
set_option maxHeartbeats 4000000 in
theorem law_19 {C M : SYS} {G : G2T} {b L : Nat} {xs : Nat → Int32} (Λ : IsL C M G b L xs) (hC : IsC C) (hY : HasX C) (hM : IsM M) (hL : L ≤ 3072) {Rel : Mem → Mem → Prop} (hs : Step Rel C7_19 C8_19) {n : Nat} (hn : n + 6 ≤ L) {μ ν : Mem} (hr : Rel μ ν)
    (kk : ∀ μ' ν', Rel μ' ν' → G 1375 [(0, .ref b), (1, .ref (sq C 0)), (2, .ref (sq M 0)), (3, .int (nI n))] [] μ' ν') : G 739 [(0, .ref b), (1, .ref (sq C 0)), (2, .ref (sq M 0)), (3, .int (nI n))] [] μ ν := by
  obtain ⟨r, μ', ν', e7, e8, hr'⟩ := hs (fun j => xs (n + j)) μ ν hr
  unfold C7_19 at e7
  unfold C8_19 at e8
  try dsimp only at e7 e8
  obtain ⟨e7, rfl⟩ := ro_i e7
  obtain ⟨e8, rfl⟩ := ro_i e8
  refine l_aload_n Λ (pc := 739) 1 dL_law_739 rfl rfl ?_
  refine l_aload_n Λ (pc := 740) 0 dL_law_740 rfl rfl ?_
  refine l_iload_n Λ (pc := 741) 3 dL_law_741 rfl rfl ?_
  refine l_iconst Λ (pc := 742) (v := nI 1) dL_law_742 rfl ?_
  refine l_iadd Λ (pc := 743) dL_law_743 ?_
  rw [nI_add]
  refine l_sld Λ (pc := 744) dL_law_744 (vp_in_nI (by omega) (by omega)) ?_
  rw [nI_clamp (by omega)]
  refine l_aload_n Λ (pc := 745) 0 dL_law_745 rfl rfl ?_
  refine l_iload_n Λ (pc := 746) 3 dL_law_746 rfl rfl ?_
  refine l_iconst Λ (pc := 747) (v := nI 2) dL_law_747 rfl ?_
  refine l_iadd Λ (pc := 748) dL_law_748 ?_
  rw [nI_add]
  refine l_sld Λ (pc := 749) dL_law_749 (vp_in_nI (by omega) (by omega)) ?_
  rw [nI_clamp (by omega)]
  refine l_callC Λ (pc := 750) (as := [.int (xs (n + 1)), .int (xs (n + 2))]) (st := []) dL_law_750 (c_X7_lied hC e7) (C_main hC) rfl mi_X7_lied mv_X7_lied kM_L_93 rfl ⟨Nat.le_of_ble_eq_true rfl, Nat.le_of_ble_eq_true rfl⟩ rfl (Nat.le_of_ble_eq_true rfl) ?_
  refine l_aload_n Λ (pc := 753) 2 dL_law_753 rfl rfl ?_
  refine l_aload_n Λ (pc := 754) 0 dL_law_754 rfl rfl ?_
  refine l_iload_n Λ (pc := 755) 3 dL_law_755 rfl rfl ?_
  refine l_iconst Λ (pc := 756) (v := nI 1) dL_law_756 rfl ?_
  refine l_iadd Λ (pc := 757) dL_law_757 ?_
  rw [nI_add]
  refine l_sld Λ (pc := 758) dL_law_758 (vp_in_nI (by omega) (by omega)) ?_
  rw [nI_clamp (by omega)]
  refine l_aload_n Λ (pc := 759) 0 dL_law_759 rfl rfl ?_
  refine l_iload_n Λ (pc := 760) 3 dL_law_760 rfl rfl ?_
  refine l_iconst Λ (pc := 761) (v := nI 2) dL_law_761 rfl ?_
  refine l_iadd Λ (pc := 762) dL_law_762 ?_
  rw [nI_add]
  refine l_sld Λ (pc := 763) dL_law_763 (vp_in_nI (by omega) (by omega)) ?_
  rw [nI_clamp (by omega)]
  refine l_callM Λ (pc := 764) (as := [.int (xs (n + 1)), .int (xs (n + 2))]) (st := [.int r]) dL_law_764 (c_X8_lied hM e8) (M_obj hM) rfl mi_X8_lied mv_X8_lied kM_L_96 rfl ⟨Nat.le_of_ble_eq_true rfl, Nat.le_of_ble_eq_true rfl⟩ rfl (Nat.le_of_ble_eq_true rfl) ?_
  refine l_icmp_eq Λ (pc := 767) (tgt := 1375) dL_law_767 rfl ?_
  exact kk _ _ hr'
set_option maxRecDepth 100000 in
set_option maxHeartbeats 4000000 in
theorem law_20 {C M : SYS} {G : G2T} {b L : Nat} {xs : Nat → Int32} (Λ : IsL C M G b L xs) (hC : IsC C) (hY : HasX C) (hM : IsM M) (hL : L ≤ 3072) {Rel : Mem → Mem → Prop} (hs : Step Rel C7_20 C8_20) {n : Nat} (hn : n + 6 ≤ L) {μ ν : Mem} (hr : Rel μ ν)
    (kk : ∀ μ' ν', Rel μ' ν' → G 1375 [(0, .ref b), (1, .ref (sq C 0)), (2, .ref (sq M 0)), (3, .int (nI n))] [] μ' ν') : G 772 [(0, .ref b), (1, .ref (sq C 0)), (2, .ref (sq M 0)), (3, .int (nI n))] [] μ ν := by
  obtain ⟨r, μ', ν', e7, e8, hr'⟩ := hs (fun j => xs (n + j)) μ ν hr
  unfold C7_20 at e7
  unfold C8_20 at e8
  try dsimp only at e7 e8
  refine l_aload_n Λ (pc := 772) 1 dL_law_772 rfl rfl ?_
  refine l_callC Λ (pc := 773) (as := []) (st := []) dL_law_773 (c_X7_fee hC e7) (C_main hC) rfl mi_X7_fee mv_X7_fee kM_L_97 rfl ⟨Nat.le_of_ble_eq_true rfl, Nat.le_of_ble_eq_true rfl⟩ rfl (Nat.le_of_ble_eq_true rfl) ?_
  refine l_aload_n Λ (pc := 776) 2 dL_law_776 rfl rfl ?_
  refine l_callM Λ (pc := 777) (as := []) (st := [.int r]) dL_law_777 (c_X8_fee hM e8) (M_obj hM) rfl mi_X8_fee mv_X8_fee kM_L_100 rfl ⟨Nat.le_of_ble_eq_true rfl, Nat.le_of_ble_eq_true rfl⟩ rfl (Nat.le_of_ble_eq_true rfl) ?_
  refine l_icmp_eq Λ (pc := 780) (tgt := 1375) dL_law_780 rfl ?_
  exact kk _ _ hr'
set_option maxRecDepth 100000 in
set_option maxHeartbeats 4000000 in
theorem law_21 {C M : SYS} {G : G2T} {b L : Nat} {xs : Nat → Int32} (Λ : IsL C M G b L xs) (hC : IsC C) (hY : HasX C) (hM : IsM M) (hL : L ≤ 3072) {Rel : Mem → Mem → Prop} (hs : Step Rel C7_21 C8_21) {n : Nat} (hn : n + 6 ≤ L) {μ ν : Mem} (hr : Rel μ ν)
    (kk : ∀ μ' ν', Rel μ' ν' → G 1375 [(0, .ref b), (1, .ref (sq C 0)), (2, .ref (sq M 0)), (3, .int (nI n))] [] μ' ν') : G 785 [(0, .ref b), (1, .ref (sq C 0)), (2, .ref (sq M 0)), (3, .int (nI n))] [] μ ν := by
  obtain ⟨r, μ', ν', e7, e8, hr'⟩ := hs (fun j => xs (n + j)) μ ν hr
  unfold C7_21 at e7
  unfold C8_21 at e8
  try dsimp only at e7 e8
  refine l_aload_n Λ (pc := 785) 1 dL_law_785 rfl rfl ?_
  refine l_aload_n Λ (pc := 786) 0 dL_law_786 rfl rfl ?_
  refine l_iload_n Λ (pc := 787) 3 dL_law_787 rfl rfl ?_
  refine l_iconst Λ (pc := 788) (v := nI 1) dL_law_788 rfl ?_
  refine l_iadd Λ (pc := 789) dL_law_789 ?_
  rw [nI_add]
  refine l_sld Λ (pc := 790) dL_law_790 (vp_in_nI (by omega) (by omega)) ?_
  rw [nI_clamp (by omega)]
  refine l_callC Λ (pc := 791) (as := [.int (xs (n + 1))]) (st := []) dL_law_791 (c_X7_fine hC e7) (C_main hC) rfl mi_X7_fine mv_X7_fine kM_L_101 rfl ⟨Nat.le_of_ble_eq_true rfl, Nat.le_of_ble_eq_true rfl⟩ rfl (Nat.le_of_ble_eq_true rfl) ?_
  refine l_aload_n Λ (pc := 794) 2 dL_law_794 rfl rfl ?_
  refine l_aload_n Λ (pc := 795) 0 dL_law_795 rfl rfl ?_
  refine l_iload_n Λ (pc := 796) 3 dL_law_796 rfl rfl ?_
  refine l_iconst Λ (pc := 797) (v := nI 1) dL_law_797 rfl ?_
  refine l_iadd Λ (pc := 798) dL_law_798 ?_
  rw [nI_add]
  refine l_sld Λ (pc := 799) dL_law_799 (vp_in_nI (by omega) (by omega)) ?_
  rw [nI_clamp (by omega)]
  refine l_callM Λ (pc := 800) (as := [.int (xs (n + 1))]) (st := [.int r]) dL_law_800 (c_X8_fine hM e8) (M_obj hM) rfl mi_X8_fine mv_X8_fine kM_L_104 rfl ⟨Nat.le_of_ble_eq_true rfl, Nat.le_of_ble_eq_true rfl⟩ rfl (Nat.le_of_ble_eq_true rfl) ?_
  refine l_icmp_eq Λ (pc := 803) (tgt := 1375) dL_law_803 rfl ?_
  exact kk _ _ hr'
set_option maxRecDepth 100000 in
set_option maxHeartbeats 4000000 in
theorem law_22 {C M : SYS} {G : G2T} {b L : Nat} {xs : Nat → Int32} (Λ : IsL C M G b L xs) (hC : IsC C) (hY : HasX C) (hM : IsM M) (hL : L ≤ 3072) {Rel : Mem → Mem → Prop} (hs : Step Rel C7_22 C8_22) {n : Nat} (hn : n + 6 ≤ L) {μ ν : Mem} (hr : Rel μ ν)
    (kk : ∀ μ' ν', Rel μ' ν' → G 1375 [(0, .ref b), (1, .ref (sq C 0)), (2, .ref (sq M 0)), (3, .int (nI n))] [] μ' ν') : G 808 [(0, .ref b), (1, .ref (sq C 0)), (2, .ref (sq M 0)), (3, .int (nI n))] [] μ ν := by
  obtain ⟨r, μ', ν', e7, e8, hr'⟩ := hs (fun j => xs (n + j)) μ ν hr
  unfold C7_22 at e7
  unfold C8_22 at e8
  try dsimp only at e7 e8
  refine l_aload_n Λ (pc := 808) 1 dL_law_808 rfl rfl ?_
  refine l_aload_n Λ (pc := 809) 0 dL_law_809 rfl rfl ?_
  refine l_iload_n Λ (pc := 810) 3 dL_law_810 rfl rfl ?_
  refine l_iconst Λ (pc := 811) (v := nI 1) dL_law_811 rfl ?_
  refine l_iadd Λ (pc := 812) dL_law_812 ?_
  rw [nI_add]
  refine l_sld Λ (pc := 813) dL_law_813 (vp_in_nI (by omega) (by omega)) ?_
  rw [nI_clamp (by omega)]
  refine l_aload_n Λ (pc := 814) 0 dL_law_814 rfl rfl ?_
  refine l_iload_n Λ (pc := 815) 3 dL_law_815 rfl rfl ?_
  refine l_iconst Λ (pc := 816) (v := nI 2) dL_law_816 rfl ?_
  refine l_iadd Λ (pc := 817) dL_law_817 ?_
  rw [nI_add]
  refine l_sld Λ (pc := 818) dL_law_818 (vp_in_nI (by omega) (by omega)) ?_
  rw [nI_clamp (by omega)]
  refine l_aload_n Λ (pc := 819) 0 dL_law_819 rfl rfl ?_
  refine l_iload_n Λ (pc := 820) 3 dL_law_820 rfl rfl ?_
  refine l_iconst Λ (pc := 821) (v := nI 3) dL_law_821 rfl ?_
  refine l_iadd Λ (pc := 822) dL_law_822 ?_
  rw [nI_add]
  refine l_sld Λ (pc := 823) dL_law_823 (vp_in_nI (by omega) (by omega)) ?_
  rw [nI_clamp (by omega)]
  refine l_callC Λ (pc := 824) (as := [.int (xs (n + 1)), .int (xs (n + 2)), .int (xs (n + 3))]) (st := []) dL_law_824 (c_X7_feed hC e7) (C_main hC) rfl mi_X7_feed mv_X7_feed kM_L_105 rfl ⟨Nat.le_of_ble_eq_true rfl, Nat.le_of_ble_eq_true rfl⟩ rfl (Nat.le_of_ble_eq_true rfl) ?_
  refine l_aload_n Λ (pc := 827) 2 dL_law_827 rfl rfl ?_
  refine l_aload_n Λ (pc := 828) 0 dL_law_828 rfl rfl ?_
  refine l_iload_n Λ (pc := 829) 3 dL_law_829 rfl rfl ?_
  refine l_iconst Λ (pc := 830) (v := nI 1) dL_law_830 rfl ?_
  refine l_iadd Λ (pc := 831) dL_law_831 ?_
  rw [nI_add]
  refine l_sld Λ (pc := 832) dL_law_832 (vp_in_nI (by omega) (by omega)) ?_
  rw [nI_clamp (by omega)]
  refine l_aload_n Λ (pc := 833) 0 dL_law_833 rfl rfl ?_
  refine l_iload_n Λ (pc := 834) 3 dL_law_834 rfl rfl ?_
  refine l_iconst Λ (pc := 835) (v := nI 2) dL_law_835 rfl ?_
  refine l_iadd Λ (pc := 836) dL_law_836 ?_
  rw [nI_add]
  refine l_sld Λ (pc := 837) dL_law_837 (vp_in_nI (by omega) (by omega)) ?_
  rw [nI_clamp (by omega)]
  refine l_aload_n Λ (pc := 838) 0 dL_law_838 rfl rfl ?_
  refine l_iload_n Λ (pc := 839) 3 dL_law_839 rfl rfl ?_
  refine l_iconst Λ (pc := 840) (v := nI 3) dL_law_840 rfl ?_
  refine l_iadd Λ (pc := 841) dL_law_841 ?_
  rw [nI_add]
  refine l_sld Λ (pc := 842) dL_law_842 (vp_in_nI (by omega) (by omega)) ?_
  rw [nI_clamp (by omega)]
  refine l_callM Λ (pc := 843) (as := [.int (xs (n + 1)), .int (xs (n + 2)), .int (xs (n + 3))]) (st := [.int r]) dL_law_843 (c_X8_feed hM e8) (M_obj hM) rfl mi_X8_feed mv_X8_feed kM_L_108 rfl ⟨Nat.le_of_ble_eq_true rfl, Nat.le_of_ble_eq_true rfl⟩ rfl (Nat.le_of_ble_eq_true rfl) ?_
  refine l_icmp_eq Λ (pc := 846) (tgt := 1375) dL_law_846 rfl ?_
  exact kk _ _ hr'
set_option maxRecDepth 100000 in
set_option maxHeartbeats 4000000 in
theorem law_23 {C M : SYS} {G : G2T} {b L : Nat} {xs : Nat → Int32} (Λ : IsL C M G b L xs) (hC : IsC C) (hY : HasX C) (hM : IsM M) (hL : L ≤ 3072) {Rel : Mem → Mem → Prop} (hs : Step Rel C7_23 C8_23) {n : Nat} (hn : n + 6 ≤ L) {μ ν : Mem} (hr : Rel μ ν)
    (kk : ∀ μ' ν', Rel μ' ν' → G 1375 [(0, .ref b), (1, .ref (sq C 0)), (2, .ref (sq M 0)), (3, .int (nI n))] [] μ' ν') : G 851 [(0, .ref b), (1, .ref (sq C 0)), (2, .ref (sq M 0)), (3, .int (nI n))] [] μ ν := by
  obtain ⟨r, μ', ν', e7, e8, hr'⟩ := hs (fun j => xs (n + j)) μ ν hr
  unfold C7_23 at e7
  unfold C8_23 at e8
  try dsimp only at e7 e8
  refine l_aload_n Λ (pc := 851) 1 dL_law_851 rfl rfl ?_
  refine l_aload_n Λ (pc := 852) 0 dL_law_852 rfl rfl ?_
  refine l_iload_n Λ (pc := 853) 3 dL_law_853 rfl rfl ?_
  refine l_iconst Λ (pc := 854) (v := nI 1) dL_law_854 rfl ?_
  refine l_iadd Λ (pc := 855) dL_law_855 ?_
  rw [nI_add]
  refine l_sld Λ (pc := 856) dL_law_856 (vp_in_nI (by omega) (by omega)) ?_
  rw [nI_clamp (by omega)]
  refine l_callC Λ (pc := 857) (as := [.int (xs (n + 1))]) (st := []) dL_law_857 (c_X7_trim hC e7) (C_main hC) rfl mi_X7_trim mv_X7_trim kM_L_109 rfl ⟨Nat.le_of_ble_eq_true rfl, Nat.le_of_ble_eq_true rfl⟩ rfl (Nat.le_of_ble_eq_true rfl) ?_
  refine l_aload_n Λ (pc := 860) 2 dL_law_860 rfl rfl ?_
  refine l_aload_n Λ (pc := 861) 0 dL_law_861 rfl rfl ?_
  refine l_iload_n Λ (pc := 862) 3 dL_law_862 rfl rfl ?_
  refine l_iconst Λ (pc := 863) (v := nI 1) dL_law_863 rfl ?_
  refine l_iadd Λ (pc := 864) dL_law_864 ?_
  rw [nI_add]
  refine l_sld Λ (pc := 865) dL_law_865 (vp_in_nI (by omega) (by omega)) ?_
  rw [nI_clamp (by omega)]
  refine l_callM Λ (pc := 866) (as := [.int (xs (n + 1))]) (st := [.int r]) dL_law_866 (c_X8_trim hM e8) (M_obj hM) rfl mi_X8_trim mv_X8_trim kM_L_112 rfl ⟨Nat.le_of_ble_eq_true rfl, Nat.le_of_ble_eq_true rfl⟩ rfl (Nat.le_of_ble_eq_true rfl) ?_
  refine l_icmp_eq Λ (pc := 869) (tgt := 1375) dL_law_869 rfl ?_
  exact kk _ _ hr'
set_option maxRecDepth 100000 in
set_option maxHeartbeats 4000000 in
theorem law_24 {C M : SYS} {G : G2T} {b L : Nat} {xs : Nat → Int32} (Λ : IsL C M G b L xs) (hC : IsC C) (hY : HasX C) (hM : IsM M) (hL : L ≤ 3072) {Rel : Mem → Mem → Prop} (hs : Step Rel C7_24 C8_24) {n : Nat} (hn : n + 6 ≤ L) {μ ν : Mem} (hr : Rel μ ν)
    (kk : ∀ μ' ν', Rel μ' ν' → G 1375 [(0, .ref b), (1, .ref (sq C 0)), (2, .ref (sq M 0)), (3, .int (nI n))] [] μ' ν') : G 874 [(0, .ref b), (1, .ref (sq C 0)), (2, .ref (sq M 0)), (3, .int (nI n))] [] μ ν := by
  obtain ⟨r, μ', ν', e7, e8, hr'⟩ := hs (fun j => xs (n + j)) μ ν hr
  unfold C7_24 at e7
  unfold C8_24 at e8
  try dsimp only at e7 e8
  refine l_aload_n Λ (pc := 874) 1 dL_law_874 rfl rfl ?_
  refine l_callC Λ (pc := 875) (as := []) (st := []) dL_law_875 (c_X7_text hC hY e7) (C_main hC) rfl mi_X7_text mv_X7_text kM_L_113 rfl ⟨Nat.le_of_ble_eq_true rfl, Nat.le_of_ble_eq_true rfl⟩ rfl (Nat.le_of_ble_eq_true rfl) ?_
  refine l_aload_n Λ (pc := 878) 2 dL_law_878 rfl rfl ?_
  refine l_callM Λ (pc := 879) (as := []) (st := [.int r]) dL_law_879 (c_X8_text hM e8) (M_obj hM) rfl mi_X8_text mv_X8_text kM_L_116 rfl ⟨Nat.le_of_ble_eq_true rfl, Nat.le_of_ble_eq_true rfl⟩ rfl (Nat.le_of_ble_eq_true rfl) ?_
  refine l_icmp_eq Λ (pc := 882) (tgt := 1375) dL_law_882 rfl ?_
  exact kk _ _ hr'
set_option maxRecDepth 100000 in
set_option maxHeartbeats 4000000 in
theorem law_25 {C M : SYS} {G : G2T} {b L : Nat} {xs : Nat → Int32} (Λ : IsL C M G b L xs) (hC : IsC C) (hY : HasX C) (hM : IsM M) (hL : L ≤ 3072) {Rel : Mem → Mem → Prop} (hs : Step Rel C7_25 C8_25) {n : Nat} (hn : n + 6 ≤ L) {μ ν : Mem} (hr : Rel μ ν)
    (kk : ∀ μ' ν', Rel μ' ν' → G 1375 [(0, .ref b), (1, .ref (sq C 0)), (2, .ref (sq M 0)), (3, .int (nI n))] [] μ' ν') : G 887 [(0, .ref b), (1, .ref (sq C 0)), (2, .ref (sq M 0)), (3, .int (nI n))] [] μ ν := by
  obtain ⟨r, μ', ν', e7, e8, hr'⟩ := hs (fun j => xs (n + j)) μ ν hr
  unfold C7_25 at e7
  unfold C8_25 at e8
  try dsimp only at e7 e8
  obtain ⟨e7, rfl⟩ := ro_i e7
  obtain ⟨e8, rfl⟩ := ro_i e8
  refine l_aload_n Λ (pc := 887) 1 dL_law_887 rfl rfl ?_
  refine l_aload_n Λ (pc := 888) 0 dL_law_888 rfl rfl ?_
  refine l_iload_n Λ (pc := 889) 3 dL_law_889 rfl rfl ?_
  refine l_iconst Λ (pc := 890) (v := nI 1) dL_law_890 rfl ?_
  refine l_iadd Λ (pc := 891) dL_law_891 ?_
  rw [nI_add]
  refine l_sld Λ (pc := 892) dL_law_892 (vp_in_nI (by omega) (by omega)) ?_
  rw [nI_clamp (by omega)]
  refine l_aload_n Λ (pc := 893) 0 dL_law_893 rfl rfl ?_
  refine l_iload_n Λ (pc := 894) 3 dL_law_894 rfl rfl ?_
  refine l_iconst Λ (pc := 895) (v := nI 2) dL_law_895 rfl ?_
  refine l_iadd Λ (pc := 896) dL_law_896 ?_
  rw [nI_add]
  refine l_sld Λ (pc := 897) dL_law_897 (vp_in_nI (by omega) (by omega)) ?_
  rw [nI_clamp (by omega)]
  refine l_callC Λ (pc := 898) (as := [.int (xs (n + 1)), .int (xs (n + 2))]) (st := []) dL_law_898 (c_X7_textTold hC e7) (C_main hC) rfl mi_X7_textTold mv_X7_textTold kM_L_117 rfl ⟨Nat.le_of_ble_eq_true rfl, Nat.le_of_ble_eq_true rfl⟩ rfl (Nat.le_of_ble_eq_true rfl) ?_
  refine l_aload_n Λ (pc := 901) 2 dL_law_901 rfl rfl ?_
  refine l_aload_n Λ (pc := 902) 0 dL_law_902 rfl rfl ?_
  refine l_iload_n Λ (pc := 903) 3 dL_law_903 rfl rfl ?_
  refine l_iconst Λ (pc := 904) (v := nI 1) dL_law_904 rfl ?_
  refine l_iadd Λ (pc := 905) dL_law_905 ?_
  rw [nI_add]
  refine l_sld Λ (pc := 906) dL_law_906 (vp_in_nI (by omega) (by omega)) ?_
  rw [nI_clamp (by omega)]
  refine l_aload_n Λ (pc := 907) 0 dL_law_907 rfl rfl ?_
  refine l_iload_n Λ (pc := 908) 3 dL_law_908 rfl rfl ?_
  refine l_iconst Λ (pc := 909) (v := nI 2) dL_law_909 rfl ?_
  refine l_iadd Λ (pc := 910) dL_law_910 ?_
  rw [nI_add]
  refine l_sld Λ (pc := 911) dL_law_911 (vp_in_nI (by omega) (by omega)) ?_
  rw [nI_clamp (by omega)]
  refine l_callM Λ (pc := 912) (as := [.int (xs (n + 1)), .int (xs (n + 2))]) (st := [.int r]) dL_law_912 (c_X8_textTold hM e8) (M_obj hM) rfl mi_X8_textTold mv_X8_textTold kM_L_120 rfl ⟨Nat.le_of_ble_eq_true rfl, Nat.le_of_ble_eq_true rfl⟩ rfl (Nat.le_of_ble_eq_true rfl) ?_
  refine l_icmp_eq Λ (pc := 915) (tgt := 1375) dL_law_915 rfl ?_
  exact kk _ _ hr'
set_option maxRecDepth 100000 in
set_option maxHeartbeats 4000000 in
theorem law_26 {C M : SYS} {G : G2T} {b L : Nat} {xs : Nat → Int32} (Λ : IsL C M G b L xs) (hC : IsC C) (hY : HasX C) (hM : IsM M) (hL : L ≤ 3072) {Rel : Mem → Mem → Prop} (hs : Step Rel C7_26 C8_26) {n : Nat} (hn : n + 6 ≤ L) {μ ν : Mem} (hr : Rel μ ν)
    (kk : ∀ μ' ν', Rel μ' ν' → G 1375 [(0, .ref b), (1, .ref (sq C 0)), (2, .ref (sq M 0)), (3, .int (nI n))] [] μ' ν') : G 920 [(0, .ref b), (1, .ref (sq C 0)), (2, .ref (sq M 0)), (3, .int (nI n))] [] μ ν := by
  obtain ⟨r, μ', ν', e7, e8, hr'⟩ := hs (fun j => xs (n + j)) μ ν hr
  unfold C7_26 at e7
  unfold C8_26 at e8
  try dsimp only at e7 e8
  obtain ⟨e7, rfl⟩ := ro_i e7
  obtain ⟨e8, rfl⟩ := ro_i e8
  refine l_aload_n Λ (pc := 920) 1 dL_law_920 rfl rfl ?_
  refine l_aload_n Λ (pc := 921) 0 dL_law_921 rfl rfl ?_
  refine l_iload_n Λ (pc := 922) 3 dL_law_922 rfl rfl ?_
  refine l_iconst Λ (pc := 923) (v := nI 1) dL_law_923 rfl ?_
  refine l_iadd Λ (pc := 924) dL_law_924 ?_
  rw [nI_add]
  refine l_sld Λ (pc := 925) dL_law_925 (vp_in_nI (by omega) (by omega)) ?_
  rw [nI_clamp (by omega)]
  refine l_callC Λ (pc := 926) (as := [.int (xs (n + 1))]) (st := []) dL_law_926 (c_X7_why hC e7) (C_main hC) rfl mi_X7_why mv_X7_why kM_L_121 rfl ⟨Nat.le_of_ble_eq_true rfl, Nat.le_of_ble_eq_true rfl⟩ rfl (Nat.le_of_ble_eq_true rfl) ?_
  refine l_aload_n Λ (pc := 929) 2 dL_law_929 rfl rfl ?_
  refine l_aload_n Λ (pc := 930) 0 dL_law_930 rfl rfl ?_
  refine l_iload_n Λ (pc := 931) 3 dL_law_931 rfl rfl ?_
  refine l_iconst Λ (pc := 932) (v := nI 1) dL_law_932 rfl ?_
  refine l_iadd Λ (pc := 933) dL_law_933 ?_
  rw [nI_add]
  refine l_sld Λ (pc := 934) dL_law_934 (vp_in_nI (by omega) (by omega)) ?_
  rw [nI_clamp (by omega)]
  refine l_callM Λ (pc := 935) (as := [.int (xs (n + 1))]) (st := [.int r]) dL_law_935 (c_X8_why hM e8) (M_obj hM) rfl mi_X8_why mv_X8_why kM_L_124 rfl ⟨Nat.le_of_ble_eq_true rfl, Nat.le_of_ble_eq_true rfl⟩ rfl (Nat.le_of_ble_eq_true rfl) ?_
  refine l_icmp_eq Λ (pc := 938) (tgt := 1375) dL_law_938 rfl ?_
  exact kk _ _ hr'
set_option maxRecDepth 100000 in
set_option maxHeartbeats 4000000 in
theorem law_27 {C M : SYS} {G : G2T} {b L : Nat} {xs : Nat → Int32} (Λ : IsL C M G b L xs) (hC : IsC C) (hY : HasX C) (hM : IsM M) (hL : L ≤ 3072) {Rel : Mem → Mem → Prop} (hs : Step Rel C7_27 C8_27) {n : Nat} (hn : n + 6 ≤ L) {μ ν : Mem} (hr : Rel μ ν)
    (kk : ∀ μ' ν', Rel μ' ν' → G 1375 [(0, .ref b), (1, .ref (sq C 0)), (2, .ref (sq M 0)), (3, .int (nI n))] [] μ' ν') : G 943 [(0, .ref b), (1, .ref (sq C 0)), (2, .ref (sq M 0)), (3, .int (nI n))] [] μ ν := by
  obtain ⟨r, μ', ν', e7, e8, hr'⟩ := hs (fun j => xs (n + j)) μ ν hr
  unfold C7_27 at e7
  unfold C8_27 at e8
  try dsimp only at e7 e8
  refine l_aload_n Λ (pc := 943) 1 dL_law_943 rfl rfl ?_
  refine l_aload_n Λ (pc := 944) 0 dL_law_944 rfl rfl ?_
  refine l_iload_n Λ (pc := 945) 3 dL_law_945 rfl rfl ?_
  refine l_iconst Λ (pc := 946) (v := nI 1) dL_law_946 rfl ?_
  refine l_iadd Λ (pc := 947) dL_law_947 ?_
  rw [nI_add]
  refine l_sld Λ (pc := 948) dL_law_948 (vp_in_nI (by omega) (by omega)) ?_
  rw [nI_clamp (by omega)]
  refine l_aload_n Λ (pc := 949) 0 dL_law_949 rfl rfl ?_
  refine l_iload_n Λ (pc := 950) 3 dL_law_950 rfl rfl ?_
  refine l_iconst Λ (pc := 951) (v := nI 2) dL_law_951 rfl ?_
  refine l_iadd Λ (pc := 952) dL_law_952 ?_
  rw [nI_add]
  refine l_sld Λ (pc := 953) dL_law_953 (vp_in_nI (by omega) (by omega)) ?_
  rw [nI_clamp (by omega)]
  refine l_aload_n Λ (pc := 954) 0 dL_law_954 rfl rfl ?_
  refine l_iload_n Λ (pc := 955) 3 dL_law_955 rfl rfl ?_
  refine l_iconst Λ (pc := 956) (v := nI 3) dL_law_956 rfl ?_
  refine l_iadd Λ (pc := 957) dL_law_957 ?_
  rw [nI_add]
  refine l_sld Λ (pc := 958) dL_law_958 (vp_in_nI (by omega) (by omega)) ?_
  rw [nI_clamp (by omega)]
  refine l_callC Λ (pc := 959) (as := [.int (xs (n + 1)), .int (xs (n + 2)), .int (xs (n + 3))]) (st := []) dL_law_959 (c_X7_sheet hC e7) (C_main hC) rfl mi_X7_sheet mv_X7_sheet kM_L_125 rfl ⟨Nat.le_of_ble_eq_true rfl, Nat.le_of_ble_eq_true rfl⟩ rfl (Nat.le_of_ble_eq_true rfl) ?_
  refine l_aload_n Λ (pc := 962) 2 dL_law_962 rfl rfl ?_
  refine l_aload_n Λ (pc := 963) 0 dL_law_963 rfl rfl ?_
  refine l_iload_n Λ (pc := 964) 3 dL_law_964 rfl rfl ?_
  refine l_iconst Λ (pc := 965) (v := nI 1) dL_law_965 rfl ?_
  refine l_iadd Λ (pc := 966) dL_law_966 ?_
  rw [nI_add]
  refine l_sld Λ (pc := 967) dL_law_967 (vp_in_nI (by omega) (by omega)) ?_
  rw [nI_clamp (by omega)]
  refine l_aload_n Λ (pc := 968) 0 dL_law_968 rfl rfl ?_
  refine l_iload_n Λ (pc := 969) 3 dL_law_969 rfl rfl ?_
  refine l_iconst Λ (pc := 970) (v := nI 2) dL_law_970 rfl ?_
  refine l_iadd Λ (pc := 971) dL_law_971 ?_
  rw [nI_add]
  refine l_sld Λ (pc := 972) dL_law_972 (vp_in_nI (by omega) (by omega)) ?_
  rw [nI_clamp (by omega)]
  refine l_aload_n Λ (pc := 973) 0 dL_law_973 rfl rfl ?_
  refine l_iload_n Λ (pc := 974) 3 dL_law_974 rfl rfl ?_
  refine l_iconst Λ (pc := 975) (v := nI 3) dL_law_975 rfl ?_
  refine l_iadd Λ (pc := 976) dL_law_976 ?_
  rw [nI_add]
  refine l_sld Λ (pc := 977) dL_law_977 (vp_in_nI (by omega) (by omega)) ?_
  rw [nI_clamp (by omega)]
  refine l_callM Λ (pc := 978) (as := [.int (xs (n + 1)), .int (xs (n + 2)), .int (xs (n + 3))]) (st := [.int r]) dL_law_978 (c_X8_sheet hM e8) (M_obj hM) rfl mi_X8_sheet mv_X8_sheet kM_L_128 rfl ⟨Nat.le_of_ble_eq_true rfl, Nat.le_of_ble_eq_true rfl⟩ rfl (Nat.le_of_ble_eq_true rfl) ?_
  refine l_icmp_eq Λ (pc := 981) (tgt := 1375) dL_law_981 rfl ?_
  exact kk _ _ hr'
set_option maxRecDepth 100000 in
set_option maxHeartbeats 4000000 in
theorem law_28 {C M : SYS} {G : G2T} {b L : Nat} {xs : Nat → Int32} (Λ : IsL C M G b L xs) (hC : IsC C) (hY : HasX C) (hM : IsM M) (hL : L ≤ 3072) {Rel : Mem → Mem → Prop} (hs : Step Rel C7_28 C8_28) {n : Nat} (hn : n + 6 ≤ L) {μ ν : Mem} (hr : Rel μ ν)
    (kk : ∀ μ' ν', Rel μ' ν' → G 1375 [(0, .ref b), (1, .ref (sq C 0)), (2, .ref (sq M 0)), (3, .int (nI n))] [] μ' ν') : G 986 [(0, .ref b), (1, .ref (sq C 0)), (2, .ref (sq M 0)), (3, .int (nI n))] [] μ ν := by
  obtain ⟨r, μ', ν', e7, e8, hr'⟩ := hs (fun j => xs (n + j)) μ ν hr
  unfold C7_28 at e7
  unfold C8_28 at e8
  try dsimp only at e7 e8
  refine l_aload_n Λ (pc := 986) 1 dL_law_986 rfl rfl ?_
  refine l_aload_n Λ (pc := 987) 0 dL_law_987 rfl rfl ?_
  refine l_iload_n Λ (pc := 988) 3 dL_law_988 rfl rfl ?_
  refine l_iconst Λ (pc := 989) (v := nI 1) dL_law_989 rfl ?_
  refine l_iadd Λ (pc := 990) dL_law_990 ?_
  rw [nI_add]
  refine l_sld Λ (pc := 991) dL_law_991 (vp_in_nI (by omega) (by omega)) ?_
  rw [nI_clamp (by omega)]
  refine l_aload_n Λ (pc := 992) 0 dL_law_992 rfl rfl ?_
  refine l_iload_n Λ (pc := 993) 3 dL_law_993 rfl rfl ?_
  refine l_iconst Λ (pc := 994) (v := nI 2) dL_law_994 rfl ?_
  refine l_iadd Λ (pc := 995) dL_law_995 ?_
  rw [nI_add]
  refine l_sld Λ (pc := 996) dL_law_996 (vp_in_nI (by omega) (by omega)) ?_
  rw [nI_clamp (by omega)]
  refine l_aload_n Λ (pc := 997) 0 dL_law_997 rfl rfl ?_
  refine l_iload_n Λ (pc := 998) 3 dL_law_998 rfl rfl ?_
  refine l_iconst Λ (pc := 999) (v := nI 3) dL_law_999 rfl ?_
  refine l_iadd Λ (pc := 1000) dL_law_1000 ?_
  rw [nI_add]
  refine l_sld Λ (pc := 1001) dL_law_1001 (vp_in_nI (by omega) (by omega)) ?_
  rw [nI_clamp (by omega)]
  refine l_callC Λ (pc := 1002) (as := [.int (xs (n + 1)), .int (xs (n + 2)), .int (xs (n + 3))]) (st := []) dL_law_1002 (c_X7_mark hC e7) (C_main hC) rfl mi_X7_mark mv_X7_mark kM_L_129 rfl ⟨Nat.le_of_ble_eq_true rfl, Nat.le_of_ble_eq_true rfl⟩ rfl (Nat.le_of_ble_eq_true rfl) ?_
  refine l_aload_n Λ (pc := 1005) 2 dL_law_1005 rfl rfl ?_
  refine l_aload_n Λ (pc := 1006) 0 dL_law_1006 rfl rfl ?_
  refine l_iload_n Λ (pc := 1007) 3 dL_law_1007 rfl rfl ?_
  refine l_iconst Λ (pc := 1008) (v := nI 1) dL_law_1008 rfl ?_
  refine l_iadd Λ (pc := 1009) dL_law_1009 ?_
  rw [nI_add]
  refine l_sld Λ (pc := 1010) dL_law_1010 (vp_in_nI (by omega) (by omega)) ?_
  rw [nI_clamp (by omega)]
  refine l_aload_n Λ (pc := 1011) 0 dL_law_1011 rfl rfl ?_
  refine l_iload_n Λ (pc := 1012) 3 dL_law_1012 rfl rfl ?_
  refine l_iconst Λ (pc := 1013) (v := nI 2) dL_law_1013 rfl ?_
  refine l_iadd Λ (pc := 1014) dL_law_1014 ?_
  rw [nI_add]
  refine l_sld Λ (pc := 1015) dL_law_1015 (vp_in_nI (by omega) (by omega)) ?_
  rw [nI_clamp (by omega)]
  refine l_aload_n Λ (pc := 1016) 0 dL_law_1016 rfl rfl ?_
  refine l_iload_n Λ (pc := 1017) 3 dL_law_1017 rfl rfl ?_
  refine l_iconst Λ (pc := 1018) (v := nI 3) dL_law_1018 rfl ?_
  refine l_iadd Λ (pc := 1019) dL_law_1019 ?_
  rw [nI_add]
  refine l_sld Λ (pc := 1020) dL_law_1020 (vp_in_nI (by omega) (by omega)) ?_
  rw [nI_clamp (by omega)]
  refine l_callM Λ (pc := 1021) (as := [.int (xs (n + 1)), .int (xs (n + 2)), .int (xs (n + 3))]) (st := [.int r]) dL_law_1021 (c_X8_mark hM e8) (M_obj hM) rfl mi_X8_mark mv_X8_mark kM_L_132 rfl ⟨Nat.le_of_ble_eq_true rfl, Nat.le_of_ble_eq_true rfl⟩ rfl (Nat.le_of_ble_eq_true rfl) ?_
  refine l_icmp_eq Λ (pc := 1024) (tgt := 1375) dL_law_1024 rfl ?_
  exact kk _ _ hr'
set_option maxRecDepth 100000 in
set_option maxHeartbeats 4000000 in
theorem law_29 {C M : SYS} {G : G2T} {b L : Nat} {xs : Nat → Int32} (Λ : IsL C M G b L xs) (hC : IsC C) (hY : HasX C) (hM : IsM M) (hL : L ≤ 3072) {Rel : Mem → Mem → Prop} (hs : Step Rel C7_29 C8_29) {n : Nat} (hn : n + 6 ≤ L) {μ ν : Mem} (hr : Rel μ ν)
    (kk : ∀ μ' ν', Rel μ' ν' → G 1375 [(0, .ref b), (1, .ref (sq C 0)), (2, .ref (sq M 0)), (3, .int (nI n))] [] μ' ν') : G 1029 [(0, .ref b), (1, .ref (sq C 0)), (2, .ref (sq M 0)), (3, .int (nI n))] [] μ ν := by
  obtain ⟨r, μ', ν', e7, e8, hr'⟩ := hs (fun j => xs (n + j)) μ ν hr
  unfold C7_29 at e7
  unfold C8_29 at e8
  try dsimp only at e7 e8
  refine l_aload_n Λ (pc := 1029) 1 dL_law_1029 rfl rfl ?_
  refine l_aload_n Λ (pc := 1030) 0 dL_law_1030 rfl rfl ?_
  refine l_iload_n Λ (pc := 1031) 3 dL_law_1031 rfl rfl ?_
  refine l_iconst Λ (pc := 1032) (v := nI 1) dL_law_1032 rfl ?_
  refine l_iadd Λ (pc := 1033) dL_law_1033 ?_
  rw [nI_add]
  refine l_sld Λ (pc := 1034) dL_law_1034 (vp_in_nI (by omega) (by omega)) ?_
  rw [nI_clamp (by omega)]
  refine l_callC Λ (pc := 1035) (as := [.int (xs (n + 1))]) (st := []) dL_law_1035 (c_X7_pour hC e7) (C_main hC) rfl mi_X7_pour mv_X7_pour kM_L_133 rfl ⟨Nat.le_of_ble_eq_true rfl, Nat.le_of_ble_eq_true rfl⟩ rfl (Nat.le_of_ble_eq_true rfl) ?_
  refine l_aload_n Λ (pc := 1038) 2 dL_law_1038 rfl rfl ?_
  refine l_aload_n Λ (pc := 1039) 0 dL_law_1039 rfl rfl ?_
  refine l_iload_n Λ (pc := 1040) 3 dL_law_1040 rfl rfl ?_
  refine l_iconst Λ (pc := 1041) (v := nI 1) dL_law_1041 rfl ?_
  refine l_iadd Λ (pc := 1042) dL_law_1042 ?_
  rw [nI_add]
  refine l_sld Λ (pc := 1043) dL_law_1043 (vp_in_nI (by omega) (by omega)) ?_
  rw [nI_clamp (by omega)]
  refine l_callM Λ (pc := 1044) (as := [.int (xs (n + 1))]) (st := [.int r]) dL_law_1044 (c_X8_pour hM e8) (M_obj hM) rfl mi_X8_pour mv_X8_pour kM_L_136 rfl ⟨Nat.le_of_ble_eq_true rfl, Nat.le_of_ble_eq_true rfl⟩ rfl (Nat.le_of_ble_eq_true rfl) ?_
  refine l_icmp_eq Λ (pc := 1047) (tgt := 1375) dL_law_1047 rfl ?_
  exact kk _ _ hr'
set_option maxRecDepth 100000 in
set_option maxHeartbeats 4000000 in
theorem law_30 {C M : SYS} {G : G2T} {b L : Nat} {xs : Nat → Int32} (Λ : IsL C M G b L xs) (hC : IsC C) (hY : HasX C) (hM : IsM M) (hL : L ≤ 3072) {Rel : Mem → Mem → Prop} (hs : Step Rel C7_30 C8_30) {n : Nat} (hn : n + 6 ≤ L) {μ ν : Mem} (hr : Rel μ ν)
    (kk : ∀ μ' ν', Rel μ' ν' → G 1375 [(0, .ref b), (1, .ref (sq C 0)), (2, .ref (sq M 0)), (3, .int (nI n))] [] μ' ν') : G 1052 [(0, .ref b), (1, .ref (sq C 0)), (2, .ref (sq M 0)), (3, .int (nI n))] [] μ ν := by
  obtain ⟨r, μ', ν', e7, e8, hr'⟩ := hs (fun j => xs (n + j)) μ ν hr
  unfold C7_30 at e7
  unfold C8_30 at e8
  try dsimp only at e7 e8
  obtain ⟨e7, rfl⟩ := ro_i e7
  obtain ⟨e8, rfl⟩ := ro_i e8
  refine l_aload_n Λ (pc := 1052) 1 dL_law_1052 rfl rfl ?_
  refine l_aload_n Λ (pc := 1053) 0 dL_law_1053 rfl rfl ?_
  refine l_iload_n Λ (pc := 1054) 3 dL_law_1054 rfl rfl ?_
  refine l_iconst Λ (pc := 1055) (v := nI 1) dL_law_1055 rfl ?_
  refine l_iadd Λ (pc := 1056) dL_law_1056 ?_
  rw [nI_add]
  refine l_sld Λ (pc := 1057) dL_law_1057 (vp_in_nI (by omega) (by omega)) ?_
  rw [nI_clamp (by omega)]
  refine l_callC Λ (pc := 1058) (as := [.int (xs (n + 1))]) (st := []) dL_law_1058 (c_X7_reads hC e7) (C_main hC) rfl mi_X7_reads mv_X7_reads kM_L_137 rfl ⟨Nat.le_of_ble_eq_true rfl, Nat.le_of_ble_eq_true rfl⟩ rfl (Nat.le_of_ble_eq_true rfl) ?_
  refine l_aload_n Λ (pc := 1061) 2 dL_law_1061 rfl rfl ?_
  refine l_aload_n Λ (pc := 1062) 0 dL_law_1062 rfl rfl ?_
  refine l_iload_n Λ (pc := 1063) 3 dL_law_1063 rfl rfl ?_
  refine l_iconst Λ (pc := 1064) (v := nI 1) dL_law_1064 rfl ?_
  refine l_iadd Λ (pc := 1065) dL_law_1065 ?_
  rw [nI_add]
  refine l_sld Λ (pc := 1066) dL_law_1066 (vp_in_nI (by omega) (by omega)) ?_
  rw [nI_clamp (by omega)]
  refine l_callM Λ (pc := 1067) (as := [.int (xs (n + 1))]) (st := [.int r]) dL_law_1067 (c_X8_reads hM e8) (M_obj hM) rfl mi_X8_reads mv_X8_reads kM_L_140 rfl ⟨Nat.le_of_ble_eq_true rfl, Nat.le_of_ble_eq_true rfl⟩ rfl (Nat.le_of_ble_eq_true rfl) ?_
  refine l_icmp_eq Λ (pc := 1070) (tgt := 1375) dL_law_1070 rfl ?_
  exact kk _ _ hr'
set_option maxRecDepth 100000 in
set_option maxHeartbeats 4000000 in
theorem law_31 {C M : SYS} {G : G2T} {b L : Nat} {xs : Nat → Int32} (Λ : IsL C M G b L xs) (hC : IsC C) (hY : HasX C) (hM : IsM M) (hL : L ≤ 3072) {Rel : Mem → Mem → Prop} (hs : Step Rel C7_31 C8_31) {n : Nat} (hn : n + 6 ≤ L) {μ ν : Mem} (hr : Rel μ ν)
    (kk : ∀ μ' ν', Rel μ' ν' → G 1375 [(0, .ref b), (1, .ref (sq C 0)), (2, .ref (sq M 0)), (3, .int (nI n))] [] μ' ν') : G 1075 [(0, .ref b), (1, .ref (sq C 0)), (2, .ref (sq M 0)), (3, .int (nI n))] [] μ ν := by
  obtain ⟨r, μ', ν', e7, e8, hr'⟩ := hs (fun j => xs (n + j)) μ ν hr
  unfold C7_31 at e7
  unfold C8_31 at e8
  try dsimp only at e7 e8
  refine l_aload_n Λ (pc := 1075) 1 dL_law_1075 rfl rfl ?_
  refine l_aload_n Λ (pc := 1076) 0 dL_law_1076 rfl rfl ?_
  refine l_iload_n Λ (pc := 1077) 3 dL_law_1077 rfl rfl ?_
  refine l_iconst Λ (pc := 1078) (v := nI 1) dL_law_1078 rfl ?_
  refine l_iadd Λ (pc := 1079) dL_law_1079 ?_
  rw [nI_add]
  refine l_sld Λ (pc := 1080) dL_law_1080 (vp_in_nI (by omega) (by omega)) ?_
  rw [nI_clamp (by omega)]
  refine l_aload_n Λ (pc := 1081) 0 dL_law_1081 rfl rfl ?_
  refine l_iload_n Λ (pc := 1082) 3 dL_law_1082 rfl rfl ?_
  refine l_iconst Λ (pc := 1083) (v := nI 2) dL_law_1083 rfl ?_
  refine l_iadd Λ (pc := 1084) dL_law_1084 ?_
  rw [nI_add]
  refine l_sld Λ (pc := 1085) dL_law_1085 (vp_in_nI (by omega) (by omega)) ?_
  rw [nI_clamp (by omega)]
  refine l_aload_n Λ (pc := 1086) 0 dL_law_1086 rfl rfl ?_
  refine l_iload_n Λ (pc := 1087) 3 dL_law_1087 rfl rfl ?_
  refine l_iconst Λ (pc := 1088) (v := nI 3) dL_law_1088 rfl ?_
  refine l_iadd Λ (pc := 1089) dL_law_1089 ?_
  rw [nI_add]
  refine l_sld Λ (pc := 1090) dL_law_1090 (vp_in_nI (by omega) (by omega)) ?_
  rw [nI_clamp (by omega)]
  refine l_aload_n Λ (pc := 1091) 0 dL_law_1091 rfl rfl ?_
  refine l_iload_n Λ (pc := 1092) 3 dL_law_1092 rfl rfl ?_
  refine l_iconst Λ (pc := 1093) (v := nI 4) dL_law_1093 rfl ?_
  refine l_iadd Λ (pc := 1094) dL_law_1094 ?_
  rw [nI_add]
  refine l_sld Λ (pc := 1095) dL_law_1095 (vp_in_nI (by omega) (by omega)) ?_
  rw [nI_clamp (by omega)]
  refine l_aload_n Λ (pc := 1096) 0 dL_law_1096 rfl rfl ?_
  refine l_iload_n Λ (pc := 1097) 3 dL_law_1097 rfl rfl ?_
  refine l_iconst Λ (pc := 1098) (v := nI 5) dL_law_1098 rfl ?_
  refine l_iadd Λ (pc := 1099) dL_law_1099 ?_
  rw [nI_add]
  refine l_sld Λ (pc := 1100) dL_law_1100 (vp_in_nI (by omega) (by omega)) ?_
  rw [nI_clamp (by omega)]
  refine l_callC Λ (pc := 1101) (as := [.int (xs (n + 1)), .int (xs (n + 2)), .int (xs (n + 3)), .int (xs (n + 4)), .int (xs (n + 5))]) (st := []) dL_law_1101 (c_X7_copy hC e7) (C_main hC) rfl mi_X7_copy mv_X7_copy kM_L_141 rfl ⟨Nat.le_of_ble_eq_true rfl, Nat.le_of_ble_eq_true rfl⟩ rfl (Nat.le_of_ble_eq_true rfl) ?_
  refine l_aload_n Λ (pc := 1104) 2 dL_law_1104 rfl rfl ?_
  refine l_aload_n Λ (pc := 1105) 0 dL_law_1105 rfl rfl ?_
  refine l_iload_n Λ (pc := 1106) 3 dL_law_1106 rfl rfl ?_
  refine l_iconst Λ (pc := 1107) (v := nI 1) dL_law_1107 rfl ?_
  refine l_iadd Λ (pc := 1108) dL_law_1108 ?_
  rw [nI_add]
  refine l_sld Λ (pc := 1109) dL_law_1109 (vp_in_nI (by omega) (by omega)) ?_
  rw [nI_clamp (by omega)]
  refine l_aload_n Λ (pc := 1110) 0 dL_law_1110 rfl rfl ?_
  refine l_iload_n Λ (pc := 1111) 3 dL_law_1111 rfl rfl ?_
  refine l_iconst Λ (pc := 1112) (v := nI 2) dL_law_1112 rfl ?_
  refine l_iadd Λ (pc := 1113) dL_law_1113 ?_
  rw [nI_add]
  refine l_sld Λ (pc := 1114) dL_law_1114 (vp_in_nI (by omega) (by omega)) ?_
  rw [nI_clamp (by omega)]
  refine l_aload_n Λ (pc := 1115) 0 dL_law_1115 rfl rfl ?_
  refine l_iload_n Λ (pc := 1116) 3 dL_law_1116 rfl rfl ?_
  refine l_iconst Λ (pc := 1117) (v := nI 3) dL_law_1117 rfl ?_
  refine l_iadd Λ (pc := 1118) dL_law_1118 ?_
  rw [nI_add]
  refine l_sld Λ (pc := 1119) dL_law_1119 (vp_in_nI (by omega) (by omega)) ?_
  rw [nI_clamp (by omega)]
  refine l_aload_n Λ (pc := 1120) 0 dL_law_1120 rfl rfl ?_
  refine l_iload_n Λ (pc := 1121) 3 dL_law_1121 rfl rfl ?_
  refine l_iconst Λ (pc := 1122) (v := nI 4) dL_law_1122 rfl ?_
  refine l_iadd Λ (pc := 1123) dL_law_1123 ?_
  rw [nI_add]
  refine l_sld Λ (pc := 1124) dL_law_1124 (vp_in_nI (by omega) (by omega)) ?_
  rw [nI_clamp (by omega)]
  refine l_aload_n Λ (pc := 1125) 0 dL_law_1125 rfl rfl ?_
  refine l_iload_n Λ (pc := 1126) 3 dL_law_1126 rfl rfl ?_
  refine l_iconst Λ (pc := 1127) (v := nI 5) dL_law_1127 rfl ?_
  refine l_iadd Λ (pc := 1128) dL_law_1128 ?_
  rw [nI_add]
  refine l_sld Λ (pc := 1129) dL_law_1129 (vp_in_nI (by omega) (by omega)) ?_
  rw [nI_clamp (by omega)]
  refine l_callM Λ (pc := 1130) (as := [.int (xs (n + 1)), .int (xs (n + 2)), .int (xs (n + 3)), .int (xs (n + 4)), .int (xs (n + 5))]) (st := [.int r]) dL_law_1130 (c_X8_copy hM e8) (M_obj hM) rfl mi_X8_copy mv_X8_copy kM_L_145 rfl ⟨Nat.le_of_ble_eq_true rfl, Nat.le_of_ble_eq_true rfl⟩ rfl (Nat.le_of_ble_eq_true rfl) ?_
  refine l_icmp_eq Λ (pc := 1133) (tgt := 1375) dL_law_1133 rfl ?_
  exact kk _ _ hr'
set_option maxRecDepth 100000 in
set_option maxHeartbeats 4000000 in
theorem law_32 {C M : SYS} {G : G2T} {b L : Nat} {xs : Nat → Int32} (Λ : IsL C M G b L xs) (hC : IsC C) (hY : HasX C) (hM : IsM M) (hL : L ≤ 3072) {Rel : Mem → Mem → Prop} (hs : Step Rel C7_32 C8_32) {n : Nat} (hn : n + 6 ≤ L) {μ ν : Mem} (hr : Rel μ ν)
    (kk : ∀ μ' ν', Rel μ' ν' → G 1375 [(0, .ref b), (1, .ref (sq C 0)), (2, .ref (sq M 0)), (3, .int (nI n))] [] μ' ν') : G 1138 [(0, .ref b), (1, .ref (sq C 0)), (2, .ref (sq M 0)), (3, .int (nI n))] [] μ ν := by
  obtain ⟨r, μ', ν', e7, e8, hr'⟩ := hs (fun j => xs (n + j)) μ ν hr
  unfold C7_32 at e7
  unfold C8_32 at e8
  try dsimp only at e7 e8
  refine l_aload_n Λ (pc := 1138) 1 dL_law_1138 rfl rfl ?_
  refine l_aload_n Λ (pc := 1139) 0 dL_law_1139 rfl rfl ?_
  refine l_iload_n Λ (pc := 1140) 3 dL_law_1140 rfl rfl ?_
  refine l_iconst Λ (pc := 1141) (v := nI 1) dL_law_1141 rfl ?_
  refine l_iadd Λ (pc := 1142) dL_law_1142 ?_
  rw [nI_add]
  refine l_sld Λ (pc := 1143) dL_law_1143 (vp_in_nI (by omega) (by omega)) ?_
  rw [nI_clamp (by omega)]
  refine l_aload_n Λ (pc := 1144) 0 dL_law_1144 rfl rfl ?_
  refine l_iload_n Λ (pc := 1145) 3 dL_law_1145 rfl rfl ?_
  refine l_iconst Λ (pc := 1146) (v := nI 2) dL_law_1146 rfl ?_
  refine l_iadd Λ (pc := 1147) dL_law_1147 ?_
  rw [nI_add]
  refine l_sld Λ (pc := 1148) dL_law_1148 (vp_in_nI (by omega) (by omega)) ?_
  rw [nI_clamp (by omega)]
  refine l_aload_n Λ (pc := 1149) 0 dL_law_1149 rfl rfl ?_
  refine l_iload_n Λ (pc := 1150) 3 dL_law_1150 rfl rfl ?_
  refine l_iconst Λ (pc := 1151) (v := nI 3) dL_law_1151 rfl ?_
  refine l_iadd Λ (pc := 1152) dL_law_1152 ?_
  rw [nI_add]
  refine l_sld Λ (pc := 1153) dL_law_1153 (vp_in_nI (by omega) (by omega)) ?_
  rw [nI_clamp (by omega)]
  refine l_callC Λ (pc := 1154) (as := [.int (xs (n + 1)), .int (xs (n + 2)), .int (xs (n + 3))]) (st := []) dL_law_1154 (c_X7_lay hC e7) (C_main hC) rfl mi_X7_lay mv_X7_lay kM_L_146 rfl ⟨Nat.le_of_ble_eq_true rfl, Nat.le_of_ble_eq_true rfl⟩ rfl (Nat.le_of_ble_eq_true rfl) ?_
  refine l_aload_n Λ (pc := 1157) 2 dL_law_1157 rfl rfl ?_
  refine l_aload_n Λ (pc := 1158) 0 dL_law_1158 rfl rfl ?_
  refine l_iload_n Λ (pc := 1159) 3 dL_law_1159 rfl rfl ?_
  refine l_iconst Λ (pc := 1160) (v := nI 1) dL_law_1160 rfl ?_
  refine l_iadd Λ (pc := 1161) dL_law_1161 ?_
  rw [nI_add]
  refine l_sld Λ (pc := 1162) dL_law_1162 (vp_in_nI (by omega) (by omega)) ?_
  rw [nI_clamp (by omega)]
  refine l_aload_n Λ (pc := 1163) 0 dL_law_1163 rfl rfl ?_
  refine l_iload_n Λ (pc := 1164) 3 dL_law_1164 rfl rfl ?_
  refine l_iconst Λ (pc := 1165) (v := nI 2) dL_law_1165 rfl ?_
  refine l_iadd Λ (pc := 1166) dL_law_1166 ?_
  rw [nI_add]
  refine l_sld Λ (pc := 1167) dL_law_1167 (vp_in_nI (by omega) (by omega)) ?_
  rw [nI_clamp (by omega)]
  refine l_aload_n Λ (pc := 1168) 0 dL_law_1168 rfl rfl ?_
  refine l_iload_n Λ (pc := 1169) 3 dL_law_1169 rfl rfl ?_
  refine l_iconst Λ (pc := 1170) (v := nI 3) dL_law_1170 rfl ?_
  refine l_iadd Λ (pc := 1171) dL_law_1171 ?_
  rw [nI_add]
  refine l_sld Λ (pc := 1172) dL_law_1172 (vp_in_nI (by omega) (by omega)) ?_
  rw [nI_clamp (by omega)]
  refine l_callM Λ (pc := 1173) (as := [.int (xs (n + 1)), .int (xs (n + 2)), .int (xs (n + 3))]) (st := [.int r]) dL_law_1173 (c_X8_lay hM e8) (M_obj hM) rfl mi_X8_lay mv_X8_lay kM_L_149 rfl ⟨Nat.le_of_ble_eq_true rfl, Nat.le_of_ble_eq_true rfl⟩ rfl (Nat.le_of_ble_eq_true rfl) ?_
  refine l_icmp_eq Λ (pc := 1176) (tgt := 1375) dL_law_1176 rfl ?_
  exact kk _ _ hr'
set_option maxRecDepth 100000 in
set_option maxHeartbeats 4000000 in
theorem law_33 {C M : SYS} {G : G2T} {b L : Nat} {xs : Nat → Int32} (Λ : IsL C M G b L xs) (hC : IsC C) (hY : HasX C) (hM : IsM M) (hL : L ≤ 3072) {Rel : Mem → Mem → Prop} (hs : Step Rel C7_33 C8_33) {n : Nat} (hn : n + 6 ≤ L) {μ ν : Mem} (hr : Rel μ ν)
    (kk : ∀ μ' ν', Rel μ' ν' → G 1375 [(0, .ref b), (1, .ref (sq C 0)), (2, .ref (sq M 0)), (3, .int (nI n))] [] μ' ν') : G 1181 [(0, .ref b), (1, .ref (sq C 0)), (2, .ref (sq M 0)), (3, .int (nI n))] [] μ ν := by
  obtain ⟨r, μ', ν', e7, e8, hr'⟩ := hs (fun j => xs (n + j)) μ ν hr
  unfold C7_33 at e7
  unfold C8_33 at e8
  try dsimp only at e7 e8
  obtain ⟨e7, rfl⟩ := ro_i e7
  obtain ⟨e8, rfl⟩ := ro_i e8
  refine l_aload_n Λ (pc := 1181) 1 dL_law_1181 rfl rfl ?_
  refine l_aload_n Λ (pc := 1182) 0 dL_law_1182 rfl rfl ?_
  refine l_iload_n Λ (pc := 1183) 3 dL_law_1183 rfl rfl ?_
  refine l_iconst Λ (pc := 1184) (v := nI 1) dL_law_1184 rfl ?_
  refine l_iadd Λ (pc := 1185) dL_law_1185 ?_
  rw [nI_add]
  refine l_sld Λ (pc := 1186) dL_law_1186 (vp_in_nI (by omega) (by omega)) ?_
  rw [nI_clamp (by omega)]
  refine l_aload_n Λ (pc := 1187) 0 dL_law_1187 rfl rfl ?_
  refine l_iload_n Λ (pc := 1188) 3 dL_law_1188 rfl rfl ?_
  refine l_iconst Λ (pc := 1189) (v := nI 2) dL_law_1189 rfl ?_
  refine l_iadd Λ (pc := 1190) dL_law_1190 ?_
  rw [nI_add]
  refine l_sld Λ (pc := 1191) dL_law_1191 (vp_in_nI (by omega) (by omega)) ?_
  rw [nI_clamp (by omega)]
  refine l_callC Λ (pc := 1192) (as := [.int (xs (n + 1)), .int (xs (n + 2))]) (st := []) dL_law_1192 (c_X7_ask hC hY e7) (C_main hC) rfl mi_X7_ask mv_X7_ask kM_L_150 rfl ⟨Nat.le_of_ble_eq_true rfl, Nat.le_of_ble_eq_true rfl⟩ rfl (Nat.le_of_ble_eq_true rfl) ?_
  refine l_aload_n Λ (pc := 1195) 2 dL_law_1195 rfl rfl ?_
  refine l_aload_n Λ (pc := 1196) 0 dL_law_1196 rfl rfl ?_
  refine l_iload_n Λ (pc := 1197) 3 dL_law_1197 rfl rfl ?_
  refine l_iconst Λ (pc := 1198) (v := nI 1) dL_law_1198 rfl ?_
  refine l_iadd Λ (pc := 1199) dL_law_1199 ?_
  rw [nI_add]
  refine l_sld Λ (pc := 1200) dL_law_1200 (vp_in_nI (by omega) (by omega)) ?_
  rw [nI_clamp (by omega)]
  refine l_aload_n Λ (pc := 1201) 0 dL_law_1201 rfl rfl ?_
  refine l_iload_n Λ (pc := 1202) 3 dL_law_1202 rfl rfl ?_
  refine l_iconst Λ (pc := 1203) (v := nI 2) dL_law_1203 rfl ?_
  refine l_iadd Λ (pc := 1204) dL_law_1204 ?_
  rw [nI_add]
  refine l_sld Λ (pc := 1205) dL_law_1205 (vp_in_nI (by omega) (by omega)) ?_
  rw [nI_clamp (by omega)]
  refine l_callM Λ (pc := 1206) (as := [.int (xs (n + 1)), .int (xs (n + 2))]) (st := [.int r]) dL_law_1206 (c_X8_ask hM e8) (M_obj hM) rfl mi_X8_ask mv_X8_ask kM_L_153 rfl ⟨Nat.le_of_ble_eq_true rfl, Nat.le_of_ble_eq_true rfl⟩ rfl (Nat.le_of_ble_eq_true rfl) ?_
  refine l_icmp_eq Λ (pc := 1209) (tgt := 1375) dL_law_1209 rfl ?_
  exact kk _ _ hr'
set_option maxRecDepth 100000 in
set_option maxHeartbeats 4000000 in
theorem law_34 {C M : SYS} {G : G2T} {b L : Nat} {xs : Nat → Int32} (Λ : IsL C M G b L xs) (hC : IsC C) (hY : HasX C) (hM : IsM M) (hL : L ≤ 3072) {Rel : Mem → Mem → Prop} (hs : Step Rel C7_34 C8_34) {n : Nat} (hn : n + 6 ≤ L) {μ ν : Mem} (hr : Rel μ ν)
    (kk : ∀ μ' ν', Rel μ' ν' → G 1375 [(0, .ref b), (1, .ref (sq C 0)), (2, .ref (sq M 0)), (3, .int (nI n))] [] μ' ν') : G 1214 [(0, .ref b), (1, .ref (sq C 0)), (2, .ref (sq M 0)), (3, .int (nI n))] [] μ ν := by
  obtain ⟨r, μ', ν', e7, e8, hr'⟩ := hs (fun j => xs (n + j)) μ ν hr
  unfold C7_34 at e7
  unfold C8_34 at e8
  try dsimp only at e7 e8
  obtain ⟨e7, rfl⟩ := ro_i e7
  obtain ⟨e8, rfl⟩ := ro_i e8
  refine l_aload_n Λ (pc := 1214) 1 dL_law_1214 rfl rfl ?_
  refine l_aload_n Λ (pc := 1215) 0 dL_law_1215 rfl rfl ?_
  refine l_iload_n Λ (pc := 1216) 3 dL_law_1216 rfl rfl ?_
  refine l_iconst Λ (pc := 1217) (v := nI 1) dL_law_1217 rfl ?_
  refine l_iadd Λ (pc := 1218) dL_law_1218 ?_
  rw [nI_add]
  refine l_sld Λ (pc := 1219) dL_law_1219 (vp_in_nI (by omega) (by omega)) ?_
  rw [nI_clamp (by omega)]
  refine l_aload_n Λ (pc := 1220) 0 dL_law_1220 rfl rfl ?_
  refine l_iload_n Λ (pc := 1221) 3 dL_law_1221 rfl rfl ?_
  refine l_iconst Λ (pc := 1222) (v := nI 2) dL_law_1222 rfl ?_
  refine l_iadd Λ (pc := 1223) dL_law_1223 ?_
  rw [nI_add]
  refine l_sld Λ (pc := 1224) dL_law_1224 (vp_in_nI (by omega) (by omega)) ?_
  rw [nI_clamp (by omega)]
  refine l_callC Λ (pc := 1225) (as := [.int (xs (n + 1)), .int (xs (n + 2))]) (st := []) dL_law_1225 (c_X7_item hC e7) (C_main hC) rfl mi_X7_item mv_X7_item kM_L_154 rfl ⟨Nat.le_of_ble_eq_true rfl, Nat.le_of_ble_eq_true rfl⟩ rfl (Nat.le_of_ble_eq_true rfl) ?_
  refine l_aload_n Λ (pc := 1228) 2 dL_law_1228 rfl rfl ?_
  refine l_aload_n Λ (pc := 1229) 0 dL_law_1229 rfl rfl ?_
  refine l_iload_n Λ (pc := 1230) 3 dL_law_1230 rfl rfl ?_
  refine l_iconst Λ (pc := 1231) (v := nI 1) dL_law_1231 rfl ?_
  refine l_iadd Λ (pc := 1232) dL_law_1232 ?_
  rw [nI_add]
  refine l_sld Λ (pc := 1233) dL_law_1233 (vp_in_nI (by omega) (by omega)) ?_
  rw [nI_clamp (by omega)]
  refine l_aload_n Λ (pc := 1234) 0 dL_law_1234 rfl rfl ?_
  refine l_iload_n Λ (pc := 1235) 3 dL_law_1235 rfl rfl ?_
  refine l_iconst Λ (pc := 1236) (v := nI 2) dL_law_1236 rfl ?_
  refine l_iadd Λ (pc := 1237) dL_law_1237 ?_
  rw [nI_add]
  refine l_sld Λ (pc := 1238) dL_law_1238 (vp_in_nI (by omega) (by omega)) ?_
  rw [nI_clamp (by omega)]
  refine l_callM Λ (pc := 1239) (as := [.int (xs (n + 1)), .int (xs (n + 2))]) (st := [.int r]) dL_law_1239 (c_X8_item hM e8) (M_obj hM) rfl mi_X8_item mv_X8_item kM_L_157 rfl ⟨Nat.le_of_ble_eq_true rfl, Nat.le_of_ble_eq_true rfl⟩ rfl (Nat.le_of_ble_eq_true rfl) ?_
  refine l_icmp_eq Λ (pc := 1242) (tgt := 1375) dL_law_1242 rfl ?_
  exact kk _ _ hr'
set_option maxRecDepth 100000 in
set_option maxHeartbeats 4000000 in
theorem law_35 {C M : SYS} {G : G2T} {b L : Nat} {xs : Nat → Int32} (Λ : IsL C M G b L xs) (hC : IsC C) (hY : HasX C) (hM : IsM M) (hL : L ≤ 3072) {Rel : Mem → Mem → Prop} (hs : Step Rel C7_35 C8_35) {n : Nat} (hn : n + 6 ≤ L) {μ ν : Mem} (hr : Rel μ ν)
    (kk : ∀ μ' ν', Rel μ' ν' → G 1375 [(0, .ref b), (1, .ref (sq C 0)), (2, .ref (sq M 0)), (3, .int (nI n))] [] μ' ν') : G 1247 [(0, .ref b), (1, .ref (sq C 0)), (2, .ref (sq M 0)), (3, .int (nI n))] [] μ ν := by
  obtain ⟨r, μ', ν', e7, e8, hr'⟩ := hs (fun j => xs (n + j)) μ ν hr
  unfold C7_35 at e7
  unfold C8_35 at e8
  try dsimp only at e7 e8
  obtain ⟨e7, rfl⟩ := ro_i e7
  obtain ⟨e8, rfl⟩ := ro_i e8
  refine l_aload_n Λ (pc := 1247) 1 dL_law_1247 rfl rfl ?_
  refine l_aload_n Λ (pc := 1248) 0 dL_law_1248 rfl rfl ?_
  refine l_iload_n Λ (pc := 1249) 3 dL_law_1249 rfl rfl ?_
  refine l_iconst Λ (pc := 1250) (v := nI 1) dL_law_1250 rfl ?_
  refine l_iadd Λ (pc := 1251) dL_law_1251 ?_
  rw [nI_add]
  refine l_sld Λ (pc := 1252) dL_law_1252 (vp_in_nI (by omega) (by omega)) ?_
  rw [nI_clamp (by omega)]
  refine l_aload_n Λ (pc := 1253) 0 dL_law_1253 rfl rfl ?_
  refine l_iload_n Λ (pc := 1254) 3 dL_law_1254 rfl rfl ?_
  refine l_iconst Λ (pc := 1255) (v := nI 2) dL_law_1255 rfl ?_
  refine l_iadd Λ (pc := 1256) dL_law_1256 ?_
  rw [nI_add]
  refine l_sld Λ (pc := 1257) dL_law_1257 (vp_in_nI (by omega) (by omega)) ?_
  rw [nI_clamp (by omega)]
  refine l_callC Λ (pc := 1258) (as := [.int (xs (n + 1)), .int (xs (n + 2))]) (st := []) dL_law_1258 (c_X7_rest hC e7) (C_main hC) rfl mi_X7_rest mv_X7_rest kM_L_158 rfl ⟨Nat.le_of_ble_eq_true rfl, Nat.le_of_ble_eq_true rfl⟩ rfl (Nat.le_of_ble_eq_true rfl) ?_
  refine l_aload_n Λ (pc := 1261) 2 dL_law_1261 rfl rfl ?_
  refine l_aload_n Λ (pc := 1262) 0 dL_law_1262 rfl rfl ?_
  refine l_iload_n Λ (pc := 1263) 3 dL_law_1263 rfl rfl ?_
  refine l_iconst Λ (pc := 1264) (v := nI 1) dL_law_1264 rfl ?_
  refine l_iadd Λ (pc := 1265) dL_law_1265 ?_
  rw [nI_add]
  refine l_sld Λ (pc := 1266) dL_law_1266 (vp_in_nI (by omega) (by omega)) ?_
  rw [nI_clamp (by omega)]
  refine l_aload_n Λ (pc := 1267) 0 dL_law_1267 rfl rfl ?_
  refine l_iload_n Λ (pc := 1268) 3 dL_law_1268 rfl rfl ?_
  refine l_iconst Λ (pc := 1269) (v := nI 2) dL_law_1269 rfl ?_
  refine l_iadd Λ (pc := 1270) dL_law_1270 ?_
  rw [nI_add]
  refine l_sld Λ (pc := 1271) dL_law_1271 (vp_in_nI (by omega) (by omega)) ?_
  rw [nI_clamp (by omega)]
  refine l_callM Λ (pc := 1272) (as := [.int (xs (n + 1)), .int (xs (n + 2))]) (st := [.int r]) dL_law_1272 (c_X8_rest hM e8) (M_obj hM) rfl mi_X8_rest mv_X8_rest kM_L_161 rfl ⟨Nat.le_of_ble_eq_true rfl, Nat.le_of_ble_eq_true rfl⟩ rfl (Nat.le_of_ble_eq_true rfl) ?_
  refine l_icmp_eq Λ (pc := 1275) (tgt := 1375) dL_law_1275 rfl ?_
  exact kk _ _ hr'
set_option maxRecDepth 100000 in
set_option maxHeartbeats 4000000 in
theorem law_36 {C M : SYS} {G : G2T} {b L : Nat} {xs : Nat → Int32} (Λ : IsL C M G b L xs) (hC : IsC C) (hY : HasX C) (hM : IsM M) (hL : L ≤ 3072) {Rel : Mem → Mem → Prop} (hs : Step Rel C7_36 C8_36) {n : Nat} (hn : n + 6 ≤ L) {μ ν : Mem} (hr : Rel μ ν)
    (kk : ∀ μ' ν', Rel μ' ν' → G 1375 [(0, .ref b), (1, .ref (sq C 0)), (2, .ref (sq M 0)), (3, .int (nI n))] [] μ' ν') : G 1280 [(0, .ref b), (1, .ref (sq C 0)), (2, .ref (sq M 0)), (3, .int (nI n))] [] μ ν := by
  obtain ⟨r, μ', ν', e7, e8, hr'⟩ := hs (fun j => xs (n + j)) μ ν hr
  unfold C7_36 at e7
  unfold C8_36 at e8
  try dsimp only at e7 e8
  refine l_aload_n Λ (pc := 1280) 1 dL_law_1280 rfl rfl ?_
  refine l_aload_n Λ (pc := 1281) 0 dL_law_1281 rfl rfl ?_
  refine l_iload_n Λ (pc := 1282) 3 dL_law_1282 rfl rfl ?_
  refine l_iconst Λ (pc := 1283) (v := nI 1) dL_law_1283 rfl ?_
  refine l_iadd Λ (pc := 1284) dL_law_1284 ?_
  rw [nI_add]
  refine l_sld Λ (pc := 1285) dL_law_1285 (vp_in_nI (by omega) (by omega)) ?_
  rw [nI_clamp (by omega)]
  refine l_callC Λ (pc := 1286) (as := [.int (xs (n + 1))]) (st := []) dL_law_1286 (c_X7_tell hC e7) (C_main hC) rfl mi_X7_tell mv_X7_tell kM_L_162 rfl ⟨Nat.le_of_ble_eq_true rfl, Nat.le_of_ble_eq_true rfl⟩ rfl (Nat.le_of_ble_eq_true rfl) ?_
  refine l_aload_n Λ (pc := 1289) 2 dL_law_1289 rfl rfl ?_
  refine l_aload_n Λ (pc := 1290) 0 dL_law_1290 rfl rfl ?_
  refine l_iload_n Λ (pc := 1291) 3 dL_law_1291 rfl rfl ?_
  refine l_iconst Λ (pc := 1292) (v := nI 1) dL_law_1292 rfl ?_
  refine l_iadd Λ (pc := 1293) dL_law_1293 ?_
  rw [nI_add]
  refine l_sld Λ (pc := 1294) dL_law_1294 (vp_in_nI (by omega) (by omega)) ?_
  rw [nI_clamp (by omega)]
  refine l_callM Λ (pc := 1295) (as := [.int (xs (n + 1))]) (st := [.int r]) dL_law_1295 (c_X8_tell hM e8) (M_obj hM) rfl mi_X8_tell mv_X8_tell kM_L_165 rfl ⟨Nat.le_of_ble_eq_true rfl, Nat.le_of_ble_eq_true rfl⟩ rfl (Nat.le_of_ble_eq_true rfl) ?_
  refine l_icmp_eq Λ (pc := 1298) (tgt := 1375) dL_law_1298 rfl ?_
  exact kk _ _ hr'
set_option maxRecDepth 100000 in
set_option maxHeartbeats 4000000 in
theorem law_37 {C M : SYS} {G : G2T} {b L : Nat} {xs : Nat → Int32} (Λ : IsL C M G b L xs) (hC : IsC C) (hY : HasX C) (hM : IsM M) (hL : L ≤ 3072) {Rel : Mem → Mem → Prop} (hs : Step Rel C7_37 C8_37) {n : Nat} (hn : n + 6 ≤ L) {μ ν : Mem} (hr : Rel μ ν)
    (kk : ∀ μ' ν', Rel μ' ν' → G 1375 [(0, .ref b), (1, .ref (sq C 0)), (2, .ref (sq M 0)), (3, .int (nI n))] [] μ' ν') : G 1303 [(0, .ref b), (1, .ref (sq C 0)), (2, .ref (sq M 0)), (3, .int (nI n))] [] μ ν := by
  obtain ⟨r, μ', ν', e7, e8, hr'⟩ := hs (fun j => xs (n + j)) μ ν hr
  unfold C7_37 at e7
  unfold C8_37 at e8
  try dsimp only at e7 e8
  refine l_aload_n Λ (pc := 1303) 1 dL_law_1303 rfl rfl ?_
  refine l_aload_n Λ (pc := 1304) 0 dL_law_1304 rfl rfl ?_
  refine l_iload_n Λ (pc := 1305) 3 dL_law_1305 rfl rfl ?_
  refine l_iconst Λ (pc := 1306) (v := nI 1) dL_law_1306 rfl ?_
  refine l_iadd Λ (pc := 1307) dL_law_1307 ?_
  rw [nI_add]
  refine l_sld Λ (pc := 1308) dL_law_1308 (vp_in_nI (by omega) (by omega)) ?_
  rw [nI_clamp (by omega)]
  refine l_callC Λ (pc := 1309) (as := [.int (xs (n + 1))]) (st := []) dL_law_1309 (c_X7_check hC e7) (C_main hC) rfl mi_X7_check mv_X7_check kM_L_166 rfl ⟨Nat.le_of_ble_eq_true rfl, Nat.le_of_ble_eq_true rfl⟩ rfl (Nat.le_of_ble_eq_true rfl) ?_
  refine l_aload_n Λ (pc := 1312) 2 dL_law_1312 rfl rfl ?_
  refine l_aload_n Λ (pc := 1313) 0 dL_law_1313 rfl rfl ?_
  refine l_iload_n Λ (pc := 1314) 3 dL_law_1314 rfl rfl ?_
  refine l_iconst Λ (pc := 1315) (v := nI 1) dL_law_1315 rfl ?_
  refine l_iadd Λ (pc := 1316) dL_law_1316 ?_
  rw [nI_add]
  refine l_sld Λ (pc := 1317) dL_law_1317 (vp_in_nI (by omega) (by omega)) ?_
  rw [nI_clamp (by omega)]
  refine l_callM Λ (pc := 1318) (as := [.int (xs (n + 1))]) (st := [.int r]) dL_law_1318 (c_X8_check hM e8) (M_obj hM) rfl mi_X8_check mv_X8_check kM_L_169 rfl ⟨Nat.le_of_ble_eq_true rfl, Nat.le_of_ble_eq_true rfl⟩ rfl (Nat.le_of_ble_eq_true rfl) ?_
  refine l_icmp_eq Λ (pc := 1321) (tgt := 1375) dL_law_1321 rfl ?_
  exact kk _ _ hr'
set_option maxRecDepth 100000 in
set_option maxHeartbeats 4000000 in
theorem law_38 {C M : SYS} {G : G2T} {b L : Nat} {xs : Nat → Int32} (Λ : IsL C M G b L xs) (hC : IsC C) (hY : HasX C) (hM : IsM M) (hL : L ≤ 3072) {Rel : Mem → Mem → Prop} (hs : Step Rel C7_38 C8_38) {n : Nat} (hn : n + 6 ≤ L) {μ ν : Mem} (hr : Rel μ ν)
    (kk : ∀ μ' ν', Rel μ' ν' → G 1375 [(0, .ref b), (1, .ref (sq C 0)), (2, .ref (sq M 0)), (3, .int (nI n))] [] μ' ν') : G 1326 [(0, .ref b), (1, .ref (sq C 0)), (2, .ref (sq M 0)), (3, .int (nI n))] [] μ ν := by
  obtain ⟨r, μ', ν', e7, e8, hr'⟩ := hs (fun j => xs (n + j)) μ ν hr
  unfold C7_38 at e7
  unfold C8_38 at e8
  try dsimp only at e7 e8
  refine l_aload_n Λ (pc := 1326) 1 dL_law_1326 rfl rfl ?_
  refine l_callC Λ (pc := 1327) (as := []) (st := []) dL_law_1327 (c_X7_keep hC e7) (C_main hC) rfl mi_X7_keep mv_X7_keep kM_L_170 rfl ⟨Nat.le_of_ble_eq_true rfl, Nat.le_of_ble_eq_true rfl⟩ rfl (Nat.le_of_ble_eq_true rfl) ?_
  refine l_aload_n Λ (pc := 1330) 2 dL_law_1330 rfl rfl ?_
  refine l_callM Λ (pc := 1331) (as := []) (st := [.int r]) dL_law_1331 (c_X8_keep hM e8) (M_obj hM) rfl mi_X8_keep mv_X8_keep kM_L_173 rfl ⟨Nat.le_of_ble_eq_true rfl, Nat.le_of_ble_eq_true rfl⟩ rfl (Nat.le_of_ble_eq_true rfl) ?_
  refine l_icmp_eq Λ (pc := 1334) (tgt := 1375) dL_law_1334 rfl ?_
  exact kk _ _ hr'
set_option maxRecDepth 100000 in
set_option maxHeartbeats 4000000 in
theorem law_39 {C M : SYS} {G : G2T} {b L : Nat} {xs : Nat → Int32} (Λ : IsL C M G b L xs) (hC : IsC C) (hY : HasX C) (hM : IsM M) (hL : L ≤ 3072) {Rel : Mem → Mem → Prop} (hs : Step Rel C7_39 C8_39) {n : Nat} (hn : n + 6 ≤ L) {μ ν : Mem} (hr : Rel μ ν)
    (kk : ∀ μ' ν', Rel μ' ν' → G 1375 [(0, .ref b), (1, .ref (sq C 0)), (2, .ref (sq M 0)), (3, .int (nI n))] [] μ' ν') : G 1339 [(0, .ref b), (1, .ref (sq C 0)), (2, .ref (sq M 0)), (3, .int (nI n))] [] μ ν := by
  obtain ⟨r, μ', ν', e7, e8, hr'⟩ := hs (fun j => xs (n + j)) μ ν hr
  unfold C7_39 at e7
  unfold C8_39 at e8
  try dsimp only at e7 e8
  refine l_aload_n Λ (pc := 1339) 1 dL_law_1339 rfl rfl ?_
  refine l_callC Λ (pc := 1340) (as := []) (st := []) dL_law_1340 (c_X7_back hC e7) (C_main hC) rfl mi_X7_back mv_X7_back kM_L_174 rfl ⟨Nat.le_of_ble_eq_true rfl, Nat.le_of_ble_eq_true rfl⟩ rfl (Nat.le_of_ble_eq_true rfl) ?_
  refine l_aload_n Λ (pc := 1343) 2 dL_law_1343 rfl rfl ?_
  refine l_callM Λ (pc := 1344) (as := []) (st := [.int r]) dL_law_1344 (c_X8_back hM e8) (M_obj hM) rfl mi_X8_back mv_X8_back kM_L_177 rfl ⟨Nat.le_of_ble_eq_true rfl, Nat.le_of_ble_eq_true rfl⟩ rfl (Nat.le_of_ble_eq_true rfl) ?_
  refine l_icmp_eq Λ (pc := 1347) (tgt := 1375) dL_law_1347 rfl ?_
  exact kk _ _ hr'
set_option maxRecDepth 100000 in
set_option maxHeartbeats 4000000 in
theorem law_40 {C M : SYS} {G : G2T} {b L : Nat} {xs : Nat → Int32} (Λ : IsL C M G b L xs) (hC : IsC C) (hY : HasX C) (hM : IsM M) (hL : L ≤ 3072) {Rel : Mem → Mem → Prop} (hs : Step Rel C7_40 C8_40) {n : Nat} (hn : n + 6 ≤ L) {μ ν : Mem} (hr : Rel μ ν)
    (kk : ∀ μ' ν', Rel μ' ν' → G 1375 [(0, .ref b), (1, .ref (sq C 0)), (2, .ref (sq M 0)), (3, .int (nI n))] [] μ' ν') : G 1352 [(0, .ref b), (1, .ref (sq C 0)), (2, .ref (sq M 0)), (3, .int (nI n))] [] μ ν := by
  obtain ⟨r, μ', ν', e7, e8, hr'⟩ := hs (fun j => xs (n + j)) μ ν hr
  unfold C7_40 at e7
  unfold C8_40 at e8
  try dsimp only at e7 e8
  obtain ⟨e7, rfl⟩ := ro_i e7
  obtain ⟨e8, rfl⟩ := ro_i e8
  refine l_aload_n Λ (pc := 1352) 1 dL_law_1352 rfl rfl ?_
  refine l_aload_n Λ (pc := 1353) 0 dL_law_1353 rfl rfl ?_
  refine l_iload_n Λ (pc := 1354) 3 dL_law_1354 rfl rfl ?_
  refine l_iconst Λ (pc := 1355) (v := nI 1) dL_law_1355 rfl ?_
  refine l_iadd Λ (pc := 1356) dL_law_1356 ?_
  rw [nI_add]
  refine l_sld Λ (pc := 1357) dL_law_1357 (vp_in_nI (by omega) (by omega)) ?_
  rw [nI_clamp (by omega)]
  refine l_callC Λ (pc := 1358) (as := [.int (xs (n + 1))]) (st := []) dL_law_1358 (c_X7_count hC e7) (C_main hC) rfl mi_X7_count mv_X7_count kM_L_178 rfl ⟨Nat.le_of_ble_eq_true rfl, Nat.le_of_ble_eq_true rfl⟩ rfl (Nat.le_of_ble_eq_true rfl) ?_
  refine l_aload_n Λ (pc := 1361) 2 dL_law_1361 rfl rfl ?_
  refine l_aload_n Λ (pc := 1362) 0 dL_law_1362 rfl rfl ?_
  refine l_iload_n Λ (pc := 1363) 3 dL_law_1363 rfl rfl ?_
  refine l_iconst Λ (pc := 1364) (v := nI 1) dL_law_1364 rfl ?_
  refine l_iadd Λ (pc := 1365) dL_law_1365 ?_
  rw [nI_add]
  refine l_sld Λ (pc := 1366) dL_law_1366 (vp_in_nI (by omega) (by omega)) ?_
  rw [nI_clamp (by omega)]
  refine l_callM Λ (pc := 1367) (as := [.int (xs (n + 1))]) (st := [.int r]) dL_law_1367 (c_X8_count hM e8) (M_obj hM) rfl mi_X8_count mv_X8_count kM_L_181 rfl ⟨Nat.le_of_ble_eq_true rfl, Nat.le_of_ble_eq_true rfl⟩ rfl (Nat.le_of_ble_eq_true rfl) ?_
  refine l_icmp_eq Λ (pc := 1370) (tgt := 1375) dL_law_1370 rfl ?_
  exact kk _ _ hr'
set_option maxRecDepth 100000 in
set_option maxHeartbeats 4000000 in
theorem law_loop {C M : SYS} {G : G2T} {b L : Nat} {xs : Nat → Int32} (Λ : IsL C M G b L xs) (hC : IsC C) (hY : HasX C) (hM : IsM M) (hL : L ≤ 3072) {Rel : Mem → Mem → Prop} (hA : AllSteps Rel) : ∀ (k n : Nat) (μ ν : Mem), L + 6 ≤ n + k → n ≤ L + 6 → Rel μ ν → G 18 [(0, .ref b), (1, .ref (sq C 0)), (2, .ref (sq M 0)), (3, .int (nI n))] [] μ ν := by
  obtain ⟨h0, h1, h2, h3, h4, h5, h6, h7, h8, h9, h10, h11, h12, h13, h14, h15, h16, h17, h18, h19, h20, h21, h22, h23, h24, h25, h26, h27, h28, h29, h30, h31, h32, h33, h34, h35, h36, h37, h38, h39, h40⟩ := hA
  intro k
  induction k with
  | zero =>
    intro n μ ν u1 u2 hr
    refine l_iload_n Λ (pc := 18) 3 dL_law_18 rfl rfl ?_
    refine l_aload_n Λ (pc := 19) 0 dL_law_19 rfl rfl ?_
    refine l_slen Λ (pc := 20) dL_law_20 ?_
    refine l_bipush Λ (pc := 21) (v := 6) dL_law_21 rfl ?_
    refine l_isub Λ (pc := 23) dL_law_23 ?_
    refine l_icmp_gt Λ (pc := 24) (tgt := 1381) dL_law_24 rfl (fun h => ?_) (fun h => ?_)
    · refine l_iconst Λ (pc := 1381) (v := 1) dL_law_1381 rfl ?_
      exact l_ret Λ dL_law_1382
    · exact absurd (by
        refine Int32.lt_iff_toInt_lt.mpr ?_
        have e : (nI L - 6 : Int32) = nI L - nI 6 := rfl
        rw [e, pk_sub_toInt (by omega) (by omega), nI_toInt (by omega)]
        omega) h
  | succ k ih =>
    intro n μ ν u1 u2 hr
    refine l_iload_n Λ (pc := 18) 3 dL_law_18 rfl rfl ?_
    refine l_aload_n Λ (pc := 19) 0 dL_law_19 rfl rfl ?_
    refine l_slen Λ (pc := 20) dL_law_20 ?_
    refine l_bipush Λ (pc := 21) (v := 6) dL_law_21 rfl ?_
    refine l_isub Λ (pc := 23) dL_law_23 ?_
    refine l_icmp_gt Λ (pc := 24) (tgt := 1381) dL_law_24 rfl (fun h => ?_) (fun h => ?_)
    · refine l_iconst Λ (pc := 1381) (v := 1) dL_law_1381 rfl ?_
      exact l_ret Λ dL_law_1382
    · have hn : n + 6 ≤ L := by
        refine Nat.not_lt.mp (fun z => h ?_)
        refine Int32.lt_iff_toInt_lt.mpr ?_
        have e : (nI L - 6 : Int32) = nI L - nI 6 := rfl
        rw [e, pk_sub_toInt (by omega) (by omega), nI_toInt (by omega)]
        omega
      have back : ∀ μ' ν', Rel μ' ν' → G 1375 [(0, .ref b), (1, .ref (sq C 0)), (2, .ref (sq M 0)), (3, .int (nI n))] [] μ' ν' := by
        intro μ' ν' hr'
        refine l_iinc Λ (pc := 1375) (v := nI (n + 6)) (lv' := [(3, .int (nI (n + 6))), (0, .ref b), (1, .ref (sq C 0)), (2, .ref (sq M 0))]) 3 dL_law_1375 rfl (nI_add n 6) (by decide) rfl ?_
        refine l_goto Λ (pc := 1378) (tgt := 18) dL_law_1378 rfl ?_
        refine l_sub Λ [1, 2, 3, 0] rfl ?_
        exact ih (n + 6) μ' ν' (by omega) (by omega) hr'
      refine l_aload_n Λ (pc := 27) 0 dL_law_27 rfl rfl ?_
      refine l_iload_n Λ (pc := 28) 3 dL_law_28 rfl rfl ?_
      refine l_sld Λ (pc := 29) dL_law_29 (vp_in_nI (by omega) (by omega)) ?_
      refine l_bipush Λ (pc := 30) (v := 63) dL_law_30 rfl ?_
      refine l_iand Λ (pc := 32) dL_law_32 ?_
      generalize xs (nI n).toNatClampNeg &&& 63 = x
      by_cases g0 : x = 0
      · refine l_tin Λ (pc := 33) (tgt := 212) 0 dL_law_33 g0 (by decide) (by decide) rfl rfl ?_
        exact law_0 Λ hC hY hM hL h0 hn hr back
      by_cases g1 : x = 1
      · refine l_tin Λ (pc := 33) (tgt := 255) 1 dL_law_33 g1 (by decide) (by decide) rfl rfl ?_
        exact law_1 Λ hC hY hM hL h1 hn hr back
      by_cases g2 : x = 2
      · refine l_tin Λ (pc := 33) (tgt := 288) 2 dL_law_33 g2 (by decide) (by decide) rfl rfl ?_
        exact law_2 Λ hC hY hM hL h2 hn hr back
      by_cases g3 : x = 3
      · refine l_tin Λ (pc := 33) (tgt := 321) 3 dL_law_33 g3 (by decide) (by decide) rfl rfl ?_
        exact law_3 Λ hC hY hM hL h3 hn hr back
      by_cases g4 : x = 4
      · refine l_tin Λ (pc := 33) (tgt := 354) 4 dL_law_33 g4 (by decide) (by decide) rfl rfl ?_
        exact law_4 Λ hC hY hM hL h4 hn hr back
      by_cases g5 : x = 5
      · refine l_tin Λ (pc := 33) (tgt := 397) 5 dL_law_33 g5 (by decide) (by decide) rfl rfl ?_
        exact law_5 Λ hC hY hM hL h5 hn hr back
      by_cases g6 : x = 6
      · refine l_tin Λ (pc := 33) (tgt := 440) 6 dL_law_33 g6 (by decide) (by decide) rfl rfl ?_
        exact law_6 Λ hC hY hM hL h6 hn hr back
      by_cases g7 : x = 7
      · refine l_tin Λ (pc := 33) (tgt := 473) 7 dL_law_33 g7 (by decide) (by decide) rfl rfl ?_
        exact law_7 Λ hC hY hM hL h7 hn hr back
      by_cases g8 : x = 8
      · refine l_tin Λ (pc := 33) (tgt := 496) 8 dL_law_33 g8 (by decide) (by decide) rfl rfl ?_
        exact law_8 Λ hC hY hM hL h8 hn hr back
      by_cases g9 : x = 9
      · refine l_tin Λ (pc := 33) (tgt := 519) 9 dL_law_33 g9 (by decide) (by decide) rfl rfl ?_
        exact law_9 Λ hC hY hM hL h9 hn hr back
      by_cases g10 : x = 10
      · refine l_tin Λ (pc := 33) (tgt := 542) 10 dL_law_33 g10 (by decide) (by decide) rfl rfl ?_
        exact law_10 Λ hC hY hM hL h10 hn hr back
      by_cases g11 : x = 11
      · refine l_tin Λ (pc := 33) (tgt := 555) 11 dL_law_33 g11 (by decide) (by decide) rfl rfl ?_
        exact law_11 Λ hC hY hM hL h11 hn hr back
      by_cases g12 : x = 12
      · refine l_tin Λ (pc := 33) (tgt := 578) 12 dL_law_33 g12 (by decide) (by decide) rfl rfl ?_
        exact law_12 Λ hC hY hM hL h12 hn hr back
      by_cases g13 : x = 13
      · refine l_tin Λ (pc := 33) (tgt := 591) 13 dL_law_33 g13 (by decide) (by decide) rfl rfl ?_
        exact law_13 Λ hC hY hM hL h13 hn hr back
      by_cases g14 : x = 14
      · refine l_tin Λ (pc := 33) (tgt := 604) 14 dL_law_33 g14 (by decide) (by decide) rfl rfl ?_
        exact law_14 Λ hC hY hM hL h14 hn hr back
      by_cases g15 : x = 15
      · refine l_tin Λ (pc := 33) (tgt := 637) 15 dL_law_33 g15 (by decide) (by decide) rfl rfl ?_
        exact law_15 Λ hC hY hM hL h15 hn hr back
      by_cases g16 : x = 16
      · refine l_tin Λ (pc := 33) (tgt := 660) 16 dL_law_33 g16 (by decide) (by decide) rfl rfl ?_
        exact law_16 Λ hC hY hM hL h16 hn hr back
      by_cases g17 : x = 17
      · refine l_tin Λ (pc := 33) (tgt := 693) 17 dL_law_33 g17 (by decide) (by decide) rfl rfl ?_
        exact law_17 Λ hC hY hM hL h17 hn hr back
      by_cases g18 : x = 18
      · refine l_tin Λ (pc := 33) (tgt := 706) 18 dL_law_33 g18 (by decide) (by decide) rfl rfl ?_
        exact law_18 Λ hC hY hM hL h18 hn hr back
      by_cases g19 : x = 19
      · refine l_tin Λ (pc := 33) (tgt := 739) 19 dL_law_33 g19 (by decide) (by decide) rfl rfl ?_
        exact law_19 Λ hC hY hM hL h19 hn hr back
      by_cases g20 : x = 20
      · refine l_tin Λ (pc := 33) (tgt := 772) 20 dL_law_33 g20 (by decide) (by decide) rfl rfl ?_
        exact law_20 Λ hC hY hM hL h20 hn hr back
      by_cases g21 : x = 21
      · refine l_tin Λ (pc := 33) (tgt := 785) 21 dL_law_33 g21 (by decide) (by decide) rfl rfl ?_
        exact law_21 Λ hC hY hM hL h21 hn hr back
      by_cases g22 : x = 22
      · refine l_tin Λ (pc := 33) (tgt := 808) 22 dL_law_33 g22 (by decide) (by decide) rfl rfl ?_
        exact law_22 Λ hC hY hM hL h22 hn hr back
      by_cases g23 : x = 23
      · refine l_tin Λ (pc := 33) (tgt := 851) 23 dL_law_33 g23 (by decide) (by decide) rfl rfl ?_
        exact law_23 Λ hC hY hM hL h23 hn hr back
      by_cases g24 : x = 24
      · refine l_tin Λ (pc := 33) (tgt := 874) 24 dL_law_33 g24 (by decide) (by decide) rfl rfl ?_
        exact law_24 Λ hC hY hM hL h24 hn hr back
      by_cases g25 : x = 25
      · refine l_tin Λ (pc := 33) (tgt := 887) 25 dL_law_33 g25 (by decide) (by decide) rfl rfl ?_
        exact law_25 Λ hC hY hM hL h25 hn hr back
      by_cases g26 : x = 26
      · refine l_tin Λ (pc := 33) (tgt := 920) 26 dL_law_33 g26 (by decide) (by decide) rfl rfl ?_
        exact law_26 Λ hC hY hM hL h26 hn hr back
      by_cases g27 : x = 27
      · refine l_tin Λ (pc := 33) (tgt := 943) 27 dL_law_33 g27 (by decide) (by decide) rfl rfl ?_
        exact law_27 Λ hC hY hM hL h27 hn hr back
      by_cases g28 : x = 28
      · refine l_tin Λ (pc := 33) (tgt := 986) 28 dL_law_33 g28 (by decide) (by decide) rfl rfl ?_
        exact law_28 Λ hC hY hM hL h28 hn hr back
      by_cases g29 : x = 29
      · refine l_tin Λ (pc := 33) (tgt := 1029) 29 dL_law_33 g29 (by decide) (by decide) rfl rfl ?_
        exact law_29 Λ hC hY hM hL h29 hn hr back
      by_cases g30 : x = 30
      · refine l_tin Λ (pc := 33) (tgt := 1052) 30 dL_law_33 g30 (by decide) (by decide) rfl rfl ?_
        exact law_30 Λ hC hY hM hL h30 hn hr back
      by_cases g31 : x = 31
      · refine l_tin Λ (pc := 33) (tgt := 1075) 31 dL_law_33 g31 (by decide) (by decide) rfl rfl ?_
        exact law_31 Λ hC hY hM hL h31 hn hr back
      by_cases g32 : x = 32
      · refine l_tin Λ (pc := 33) (tgt := 1138) 32 dL_law_33 g32 (by decide) (by decide) rfl rfl ?_
        exact law_32 Λ hC hY hM hL h32 hn hr back
      by_cases g33 : x = 33
      · refine l_tin Λ (pc := 33) (tgt := 1181) 33 dL_law_33 g33 (by decide) (by decide) rfl rfl ?_
        exact law_33 Λ hC hY hM hL h33 hn hr back
      by_cases g34 : x = 34
      · refine l_tin Λ (pc := 33) (tgt := 1214) 34 dL_law_33 g34 (by decide) (by decide) rfl rfl ?_
        exact law_34 Λ hC hY hM hL h34 hn hr back
      by_cases g35 : x = 35
      · refine l_tin Λ (pc := 33) (tgt := 1247) 35 dL_law_33 g35 (by decide) (by decide) rfl rfl ?_
        exact law_35 Λ hC hY hM hL h35 hn hr back
      by_cases g36 : x = 36
      · refine l_tin Λ (pc := 33) (tgt := 1280) 36 dL_law_33 g36 (by decide) (by decide) rfl rfl ?_
        exact law_36 Λ hC hY hM hL h36 hn hr back
      by_cases g37 : x = 37
      · refine l_tin Λ (pc := 33) (tgt := 1303) 37 dL_law_33 g37 (by decide) (by decide) rfl rfl ?_
        exact law_37 Λ hC hY hM hL h37 hn hr back
      by_cases g38 : x = 38
      · refine l_tin Λ (pc := 33) (tgt := 1326) 38 dL_law_33 g38 (by decide) (by decide) rfl rfl ?_
        exact law_38 Λ hC hY hM hL h38 hn hr back
      by_cases g39 : x = 39
      · refine l_tin Λ (pc := 33) (tgt := 1339) 39 dL_law_33 g39 (by decide) (by decide) rfl rfl ?_
        exact law_39 Λ hC hY hM hL h39 hn hr back
      by_cases g40 : x = 40
      · refine l_tin Λ (pc := 33) (tgt := 1352) 40 dL_law_33 g40 (by decide) (by decide) rfl rfl ?_
        exact law_40 Λ hC hY hM hL h40 hn hr back
      refine l_tout Λ (pc := 33) (tgt := 1375) dL_law_33 (by have e0 := ne_ti (k := 0) rfl g0; have e1 := ne_ti (k := 1) rfl g1; have e2 := ne_ti (k := 2) rfl g2; have e3 := ne_ti (k := 3) rfl g3; have e4 := ne_ti (k := 4) rfl g4; have e5 := ne_ti (k := 5) rfl g5; have e6 := ne_ti (k := 6) rfl g6; have e7 := ne_ti (k := 7) rfl g7; have e8 := ne_ti (k := 8) rfl g8; have e9 := ne_ti (k := 9) rfl g9; have e10 := ne_ti (k := 10) rfl g10; have e11 := ne_ti (k := 11) rfl g11; have e12 := ne_ti (k := 12) rfl g12; have e13 := ne_ti (k := 13) rfl g13; have e14 := ne_ti (k := 14) rfl g14; have e15 := ne_ti (k := 15) rfl g15; have e16 := ne_ti (k := 16) rfl g16; have e17 := ne_ti (k := 17) rfl g17; have e18 := ne_ti (k := 18) rfl g18; have e19 := ne_ti (k := 19) rfl g19; have e20 := ne_ti (k := 20) rfl g20; have e21 := ne_ti (k := 21) rfl g21; have e22 := ne_ti (k := 22) rfl g22; have e23 := ne_ti (k := 23) rfl g23; have e24 := ne_ti (k := 24) rfl g24; have e25 := ne_ti (k := 25) rfl g25; have e26 := ne_ti (k := 26) rfl g26; have e27 := ne_ti (k := 27) rfl g27; have e28 := ne_ti (k := 28) rfl g28; have e29 := ne_ti (k := 29) rfl g29; have e30 := ne_ti (k := 30) rfl g30; have e31 := ne_ti (k := 31) rfl g31; have e32 := ne_ti (k := 32) rfl g32; have e33 := ne_ti (k := 33) rfl g33; have e34 := ne_ti (k := 34) rfl g34; have e35 := ne_ti (k := 35) rfl g35; have e36 := ne_ti (k := 36) rfl g36; have e37 := ne_ti (k := 37) rfl g37; have e38 := ne_ti (k := 38) rfl g38; have e39 := ne_ti (k := 39) rfl g39; have e40 := ne_ti (k := 40) rfl g40; omega) rfl ?_
      exact back _ _ hr
