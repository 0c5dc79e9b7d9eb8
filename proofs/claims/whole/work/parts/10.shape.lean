/-! THE TWO SYSTEMS: the reference (19 cells), the class (67 cells) -/
theorem W.aaldT {p : Program} {l : Launch} {e : Env} {R : Room} {s : State} {m : MethodId} {args : Array Value} {below : List Frame} {meth : Method} {c : Code} {H : Heap} {locs : List Loc} {cells slots : Nat} {Q : State → Prop} {cc : ByteArray} {pc : Nat} {ls : Array Slot} {rest : List Value} {D : va_G} {cl : List vw_C} {a : Nat} {tys : List (ClassId × FieldType)} {ws : va_W} (hexec : p.tables.exec = Jvm.exec) (hb : c.code = cc) (hK : va_K D cl tys s) (hP : va_P D cl ws H) (q0 t0 : Nat) {cA : ClassId} {ty : FieldType} {n : Nat} {f : Nat → Option Nat} (ha : ws[q0]? = some (a, .inl (cA, n, .inr (.inr (.inr (.inr f)))))) (ht : tys[t0]? = some (cA, ty)) (hty : ty.isReference = true) {i : Int32} (hin : vp_in i n) (hdg : decode cc pc = .ok (.aaload, 1))
    (kk : W p l e R s m args below meth c H locs cells slots Q (F0 m (pc + 1) ls (va_rf (f i.toNatClampNeg) :: rest))) : W p l e R s m args below meth c H locs cells slots Q (F0 m pc ls (.int i :: .ref a :: rest)) := by
  have hlt : i.toNatClampNeg < n := Nat.not_le.mp fun q => hin (Or.inr q)
  exact W.aald (v := va_rf (f i.toNatClampNeg)) (ty := ty) hexec hb (hP q0 _ ha) ((hK.2 t0 _ ht).1 n (fun j => va_rf (f j))) hty (fun q => by cases q) (by show ¬ (i < 0 ∨ (arrV _ _ _).slots.size ≤ _); rw [arrV_size]; exact hin) (by show (arrV _ _ _).slots[_]? = _; rw [arrV_read _ _ hlt]) rfl rfl hdg kk
def RArrT (Y : SYS) (i n : Nat) (g : Nat → Nat) : Prop := i < sN Y ∧ ∃ (cA : ClassId) (t0 : Nat) (ty : FieldType), ty.isReference = true ∧ (sT Y)[t0]? = some (cA, ty) ∧ ∀ r, sSh Y i r = .inl (cA, n, .inr (.inr (.inr (.inr (fun k => some (sq Y (g k)))))))
theorem g_aaldT {Y : SYS} {G : GT} {own : String} {cc : ByteArray} {nL : Nat} {R : Room} {pc : Nat} {lv : List (Nat × Value)} {st : List Value} {μ : Mem} (Γ : IsG Y G own cc nL R) {ρ : Type} {i n : Nat} {g : Nat → Nat} {x : Int32} {F : Nat → Option ρ} {r : ρ} (hd : decode cc pc = .ok (.aaload, 1)) (hO : RArrT Y i n g) (hf : bn1 (rdM n x) F = some r) (kk : ∀ j, j < n → F j = some r → G (pc + 1) lv (.ref (sq Y (g j)) :: st) μ) : G pc lv (.int x :: .ref (sq Y i) :: st) μ := by
  obtain ⟨p, e, s, m, args, below, meth, c, cells, slots, Z, A, rfl, hx, hb, hml, hown, hts, hK, hQ, hA, hXO, hX, hcl, hsl⟩ := Γ
  intro H locs ls hP hS hl
  obtain ⟨j, h1, h2⟩ := bn1_i hf
  unfold rdM at h1
  obtain ⟨o1, cA, t0, ty, oty, o2, o3⟩ := hO
  by_cases hin : x < 0 ∨ n ≤ x.toNatClampNeg
  · rw [if_pos hin] at h1; cases h1
  · rw [if_neg hin] at h1; cases h1
    exact W.aaldT (f := fun k => some (sq Y (g k))) hx hb hK hP i t0 (by rw [wld_get o1, o3]) o2 oty (show vp_in x n from hin) hd (kk _ (Nat.not_le.mp fun z => hin (Or.inr z)) h2 H locs ls hP hS hl)
def fsM (q : Nat → Nat) (r : Nat → Int32) : List Value := [.ref (q 1), .ref (q 2), .ref (q 3), .int (r 3), .ref (q 4), .ref (q 5), .ref (q 6), .ref (q 7), .ref (q 8), .ref (q 9), .ref (q 10), .ref (q 11), .ref (q 12), .ref (q 13), .int (r 14), .int (r 15), .int (r 16), .int (r 17), .int (r 18), .int (r 19), .int (r 20), .int (r 21), .int (r 22), .int (r 23), .int (r 24), .ref (q 14), .ref (q 15), .ref (q 16), .ref (q 17), .int (r 29), .ref (q 18)]
def shM (q : Nat → Nat) (cI : ClassId) (i : Nat) : (Nat → Int32) → va_E := ([fun r => .inr (7, fsM q r), fun r => .inl (cI, 3059, .inl r), fun r => .inl (cI, 3059, .inl r), fun r => .inl (cI, 3059, .inl r), fun r => .inl (cI, 4, .inl r), fun r => .inl (cI, 4, .inl r), fun r => .inl (cI, 96, .inl r), fun r => .inl (cI, 5, .inl r), fun r => .inl (cI, 5, .inl r), fun r => .inl (cI, 5, .inl r), fun r => .inl (cI, 5, .inl r), fun r => .inl (cI, 120, .inl r), fun r => .inl (cI, 59, .inl r), fun r => .inl (cI, 96, .inl r), fun r => .inl (cI, 128, .inl r), fun r => .inl (cI, 100, .inl r), fun r => .inl (cI, 24, .inl r), fun r => .inl (cI, 60, .inl r), fun r => .inl (cI, 60, .inl r)] : List ((Nat → Int32) → va_E)).getD i (fun r => .inl (cI, 0, .inl r))
def IsM (Y : SYS) : Prop := sN Y = 19 ∧ ∃ cI, (sT Y)[0]? = some (cI, .int) ∧ sSh Y = shM (sq Y) cI
theorem M_obj {Y : SYS} (h : IsM Y) : Obj Y 0 7 (fsM (sq Y)) := by
  obtain ⟨h1, cI, h2, h3⟩ := h
  exact ⟨by rw [h1]; decide, fun r => by rw [h3]; rfl⟩
theorem M_1 {Y : SYS} (h : IsM Y) : IArr Y 1 3059 := by
  obtain ⟨h1, cI, h2, h3⟩ := h
  exact ⟨by rw [h1]; decide, cI, 0, h2, fun r => by rw [h3]; rfl⟩
theorem M_2 {Y : SYS} (h : IsM Y) : IArr Y 2 3059 := by
  obtain ⟨h1, cI, h2, h3⟩ := h
  exact ⟨by rw [h1]; decide, cI, 0, h2, fun r => by rw [h3]; rfl⟩
theorem M_3 {Y : SYS} (h : IsM Y) : IArr Y 3 3059 := by
  obtain ⟨h1, cI, h2, h3⟩ := h
  exact ⟨by rw [h1]; decide, cI, 0, h2, fun r => by rw [h3]; rfl⟩
theorem M_4 {Y : SYS} (h : IsM Y) : IArr Y 4 4 := by
  obtain ⟨h1, cI, h2, h3⟩ := h
  exact ⟨by rw [h1]; decide, cI, 0, h2, fun r => by rw [h3]; rfl⟩
theorem M_5 {Y : SYS} (h : IsM Y) : IArr Y 5 4 := by
  obtain ⟨h1, cI, h2, h3⟩ := h
  exact ⟨by rw [h1]; decide, cI, 0, h2, fun r => by rw [h3]; rfl⟩
theorem M_6 {Y : SYS} (h : IsM Y) : IArr Y 6 96 := by
  obtain ⟨h1, cI, h2, h3⟩ := h
  exact ⟨by rw [h1]; decide, cI, 0, h2, fun r => by rw [h3]; rfl⟩
theorem M_7 {Y : SYS} (h : IsM Y) : IArr Y 7 5 := by
  obtain ⟨h1, cI, h2, h3⟩ := h
  exact ⟨by rw [h1]; decide, cI, 0, h2, fun r => by rw [h3]; rfl⟩
theorem M_8 {Y : SYS} (h : IsM Y) : IArr Y 8 5 := by
  obtain ⟨h1, cI, h2, h3⟩ := h
  exact ⟨by rw [h1]; decide, cI, 0, h2, fun r => by rw [h3]; rfl⟩
theorem M_9 {Y : SYS} (h : IsM Y) : IArr Y 9 5 := by
  obtain ⟨h1, cI, h2, h3⟩ := h
  exact ⟨by rw [h1]; decide, cI, 0, h2, fun r => by rw [h3]; rfl⟩
theorem M_10 {Y : SYS} (h : IsM Y) : IArr Y 10 5 := by
  obtain ⟨h1, cI, h2, h3⟩ := h
  exact ⟨by rw [h1]; decide, cI, 0, h2, fun r => by rw [h3]; rfl⟩
theorem M_11 {Y : SYS} (h : IsM Y) : IArr Y 11 120 := by
  obtain ⟨h1, cI, h2, h3⟩ := h
  exact ⟨by rw [h1]; decide, cI, 0, h2, fun r => by rw [h3]; rfl⟩
theorem M_12 {Y : SYS} (h : IsM Y) : IArr Y 12 59 := by
  obtain ⟨h1, cI, h2, h3⟩ := h
  exact ⟨by rw [h1]; decide, cI, 0, h2, fun r => by rw [h3]; rfl⟩
theorem M_13 {Y : SYS} (h : IsM Y) : IArr Y 13 96 := by
  obtain ⟨h1, cI, h2, h3⟩ := h
  exact ⟨by rw [h1]; decide, cI, 0, h2, fun r => by rw [h3]; rfl⟩
theorem M_14 {Y : SYS} (h : IsM Y) : IArr Y 14 128 := by
  obtain ⟨h1, cI, h2, h3⟩ := h
  exact ⟨by rw [h1]; decide, cI, 0, h2, fun r => by rw [h3]; rfl⟩
theorem M_15 {Y : SYS} (h : IsM Y) : IArr Y 15 100 := by
  obtain ⟨h1, cI, h2, h3⟩ := h
  exact ⟨by rw [h1]; decide, cI, 0, h2, fun r => by rw [h3]; rfl⟩
theorem M_16 {Y : SYS} (h : IsM Y) : IArr Y 16 24 := by
  obtain ⟨h1, cI, h2, h3⟩ := h
  exact ⟨by rw [h1]; decide, cI, 0, h2, fun r => by rw [h3]; rfl⟩
theorem M_17 {Y : SYS} (h : IsM Y) : IArr Y 17 60 := by
  obtain ⟨h1, cI, h2, h3⟩ := h
  exact ⟨by rw [h1]; decide, cI, 0, h2, fun r => by rw [h3]; rfl⟩
theorem M_18 {Y : SYS} (h : IsM Y) : IArr Y 18 60 := by
  obtain ⟨h1, cI, h2, h3⟩ := h
  exact ⟨by rw [h1]; decide, cI, 0, h2, fun r => by rw [h3]; rfl⟩
def fsMain (q : Nat → Nat) (r : Nat → Int32) : List Value := [.ref (q 1), .ref (q 21), .ref (q 26), .ref (q 31), .ref (q 36), .ref (q 38), .ref (q 41), .ref (q 50), .ref (q 66), .int (r 9), .int (r 10)]
def fsBook (q : Nat → Nat) (_ : Nat → Int32) : List Value := [.ref (q 2), .ref (q 3), .ref (q 4), .ref (q 5), .ref (q 6)]
def fsTown (q : Nat → Nat) (b : Nat) (r : Nat → Int32) : List Value := [.ref (q 1), .ref (q (b + 1)), .ref (q (b + 2)), .ref (q (b + 3)), .ref (q (b + 4)), .int (r 5), .int (r 6), .int (r 7), .int (r 8), .int (r 9), .int (r 10), .int (r 11), .int (r 12), .int (r 13), .int (r 14)]
def fsOrder (q : Nat → Nat) (r : Nat → Int32) : List Value := [.ref (q 37), .int (r 1)]
def fsReader (q : Nat → Nat) (r : Nat → Int32) : List Value := [.ref (q 39), .ref (q 40), .int (r 2), .int (r 3), .int (r 4), .int (r 5), .int (r 6), .int (r 7), .int (r 8)]
def fsRow (q : Nat → Nat) (b : Nat) (r : Nat → Int32) : List Value := [.ref (q (b + 1)), .int (r 1), .int (r 2)]
def fsSlot (q : Nat → Nat) (b : Nat) (r : Nat → Int32) : List Value := [.ref (q (b + 1)), .int (r 1), .int (r 2), .int (r 3), .int (r 4)]
def shC (q : Nat → Nat) (cI cII cR cS : ClassId) (i : Nat) : (Nat → Int32) → va_E := ([fun r => .inr (6, fsMain q r), fun r => .inr (0, fsBook q r), fun r => .inl (cI, 14, .inl r), fun r => .inl (cI, 14, .inl r), fun r => .inl (cI, 14, .inl r), fun _ => .inl (cII, 14, .inr (.inr (.inr (.inr (fun k => some (q (7 + k))))))), fun r => .inl (cI, 96, .inl r), fun r => .inl (cI, 96, .inl r), fun r => .inl (cI, 96, .inl r), fun r => .inl (cI, 96, .inl r), fun r => .inl (cI, 96, .inl r), fun r => .inl (cI, 96, .inl r), fun r => .inl (cI, 96, .inl r), fun r => .inl (cI, 96, .inl r), fun r => .inl (cI, 96, .inl r), fun r => .inl (cI, 96, .inl r), fun r => .inl (cI, 96, .inl r), fun r => .inl (cI, 96, .inl r), fun r => .inl (cI, 96, .inl r), fun r => .inl (cI, 96, .inl r), fun r => .inl (cI, 96, .inl r), fun r => .inr (5, fsTown q 21 r), fun r => .inl (cI, 10, .inl r), fun r => .inl (cI, 10, .inl r), fun r => .inl (cI, 10, .inl r), fun r => .inl (cI, 10, .inl r), fun r => .inr (5, fsTown q 26 r), fun r => .inl (cI, 10, .inl r), fun r => .inl (cI, 10, .inl r), fun r => .inl (cI, 10, .inl r), fun r => .inl (cI, 10, .inl r), fun r => .inr (5, fsTown q 31 r), fun r => .inl (cI, 10, .inl r), fun r => .inl (cI, 10, .inl r), fun r => .inl (cI, 10, .inl r), fun r => .inl (cI, 10, .inl r), fun r => .inr (1, fsOrder q r), fun r => .inl (cI, 1024, .inl r), fun r => .inr (2, fsReader q r), fun r => .inl (cI, 96, .inl r), fun r => .inl (cI, 96, .inl r), fun _ => .inl (cR, 4, .inr (.inr (.inr (.inr (fun k => some (q (42 + 2 * k))))))), fun r => .inr (3, fsRow q 42 r), fun r => .inl (cI, 24, .inl r), fun r => .inr (3, fsRow q 44 r), fun r => .inl (cI, 24, .inl r), fun r => .inr (3, fsRow q 46 r), fun r => .inl (cI, 24, .inl r), fun r => .inr (3, fsRow q 48 r), fun r => .inl (cI, 24, .inl r), fun _ => .inl (cS, 5, .inr (.inr (.inr (.inr (fun k => some (q (51 + 3 * k))))))), fun r => .inr (4, fsSlot q 51 r), fun r => .inr (3, fsRow q 52 r), fun r => .inl (cI, 24, .inl r), fun r => .inr (4, fsSlot q 54 r), fun r => .inr (3, fsRow q 55 r), fun r => .inl (cI, 24, .inl r), fun r => .inr (4, fsSlot q 57 r), fun r => .inr (3, fsRow q 58 r), fun r => .inl (cI, 24, .inl r), fun r => .inr (4, fsSlot q 60 r), fun r => .inr (3, fsRow q 61 r), fun r => .inl (cI, 24, .inl r), fun r => .inr (4, fsSlot q 63 r), fun r => .inr (3, fsRow q 64 r), fun r => .inl (cI, 24, .inl r), fun r => .inl (cI, 60, .inl r)] : List ((Nat → Int32) → va_E)).getD i (fun r => .inl (cI, 0, .inl r))
def IsC (Y : SYS) : Prop := sN Y = 67 ∧ ∃ cI cII cR cS, (sT Y)[0]? = some (cI, .int) ∧ (sT Y)[1]? = some (cII, .array .int) ∧ (sT Y)[2]? = some (cR, .object "HalfFriends$Row") ∧ (sT Y)[3]? = some (cS, .object "HalfFriends$Slot") ∧ sSh Y = shC (sq Y) cI cII cR cS
def TownAt (b : Nat) : Prop := b = 21 ∨ b = 26 ∨ b = 31
def RowAt (b : Nat) : Prop := (∃ k, k < 4 ∧ b = 42 + 2 * k) ∨ ∃ k, k < 5 ∧ b = 51 + 3 * k + 1
def SlotAt (b : Nat) : Prop := ∃ k, k < 5 ∧ b = 51 + 3 * k
theorem RowAt.sheet {k : Nat} (h : k < 4) : RowAt (42 + 2 * k) := Or.inl ⟨k, h, rfl⟩
theorem SlotAt.slot {k : Nat} (h : k < 5) : SlotAt (51 + 3 * k) := ⟨k, h, rfl⟩
theorem RowAt.slot {k : Nat} (h : k < 5) : RowAt (51 + 3 * k + 1) := Or.inr ⟨k, h, rfl⟩
theorem lt_4 {P : Nat → Prop} (h0 : P 0) (h1 : P 1) (h2 : P 2) (h3 : P 3) {k : Nat} (h : k < 4) : P k := by
  rcases (by omega : k = 0 ∨ k = 1 ∨ k = 2 ∨ k = 3) with rfl | rfl | rfl | rfl <;> assumption
theorem lt_5 {P : Nat → Prop} (h0 : P 0) (h1 : P 1) (h2 : P 2) (h3 : P 3) (h4 : P 4) {k : Nat} (h : k < 5) : P k := by
  rcases (by omega : k = 0 ∨ k = 1 ∨ k = 2 ∨ k = 3 ∨ k = 4) with rfl | rfl | rfl | rfl | rfl <;> assumption
theorem C_main {Y : SYS} (h : IsC Y) : Obj Y 0 6 (fsMain (sq Y)) := by
  obtain ⟨h1, cI, cII, cR, cS, h2, h3, h4, h5, h6⟩ := h
  exact ⟨by rw [h1]; decide, fun r => by rw [h6]; rfl⟩
theorem C_book {Y : SYS} (h : IsC Y) : Obj Y 1 0 (fsBook (sq Y)) := by
  obtain ⟨h1, cI, cII, cR, cS, h2, h3, h4, h5, h6⟩ := h
  exact ⟨by rw [h1]; decide, fun r => by rw [h6]; rfl⟩
theorem C_order {Y : SYS} (h : IsC Y) : Obj Y 36 1 (fsOrder (sq Y)) := by
  obtain ⟨h1, cI, cII, cR, cS, h2, h3, h4, h5, h6⟩ := h
  exact ⟨by rw [h1]; decide, fun r => by rw [h6]; rfl⟩
theorem C_reader {Y : SYS} (h : IsC Y) : Obj Y 38 2 (fsReader (sq Y)) := by
  obtain ⟨h1, cI, cII, cR, cS, h2, h3, h4, h5, h6⟩ := h
  exact ⟨by rw [h1]; decide, fun r => by rw [h6]; rfl⟩
theorem C_2 {Y : SYS} (h : IsC Y) : IArr Y 2 14 := by
  obtain ⟨h1, cI, cII, cR, cS, h2, h3, h4, h5, h6⟩ := h
  exact ⟨by rw [h1]; decide, cI, 0, h2, fun r => by rw [h6]; rfl⟩
theorem C_3 {Y : SYS} (h : IsC Y) : IArr Y 3 14 := by
  obtain ⟨h1, cI, cII, cR, cS, h2, h3, h4, h5, h6⟩ := h
  exact ⟨by rw [h1]; decide, cI, 0, h2, fun r => by rw [h6]; rfl⟩
theorem C_4 {Y : SYS} (h : IsC Y) : IArr Y 4 14 := by
  obtain ⟨h1, cI, cII, cR, cS, h2, h3, h4, h5, h6⟩ := h
  exact ⟨by rw [h1]; decide, cI, 0, h2, fun r => by rw [h6]; rfl⟩
theorem C_6 {Y : SYS} (h : IsC Y) : IArr Y 6 96 := by
  obtain ⟨h1, cI, cII, cR, cS, h2, h3, h4, h5, h6⟩ := h
  exact ⟨by rw [h1]; decide, cI, 0, h2, fun r => by rw [h6]; rfl⟩
theorem C_7 {Y : SYS} (h : IsC Y) : IArr Y 7 96 := by
  obtain ⟨h1, cI, cII, cR, cS, h2, h3, h4, h5, h6⟩ := h
  exact ⟨by rw [h1]; decide, cI, 0, h2, fun r => by rw [h6]; rfl⟩
theorem C_8 {Y : SYS} (h : IsC Y) : IArr Y 8 96 := by
  obtain ⟨h1, cI, cII, cR, cS, h2, h3, h4, h5, h6⟩ := h
  exact ⟨by rw [h1]; decide, cI, 0, h2, fun r => by rw [h6]; rfl⟩
theorem C_9 {Y : SYS} (h : IsC Y) : IArr Y 9 96 := by
  obtain ⟨h1, cI, cII, cR, cS, h2, h3, h4, h5, h6⟩ := h
  exact ⟨by rw [h1]; decide, cI, 0, h2, fun r => by rw [h6]; rfl⟩
theorem C_10 {Y : SYS} (h : IsC Y) : IArr Y 10 96 := by
  obtain ⟨h1, cI, cII, cR, cS, h2, h3, h4, h5, h6⟩ := h
  exact ⟨by rw [h1]; decide, cI, 0, h2, fun r => by rw [h6]; rfl⟩
theorem C_11 {Y : SYS} (h : IsC Y) : IArr Y 11 96 := by
  obtain ⟨h1, cI, cII, cR, cS, h2, h3, h4, h5, h6⟩ := h
  exact ⟨by rw [h1]; decide, cI, 0, h2, fun r => by rw [h6]; rfl⟩
theorem C_12 {Y : SYS} (h : IsC Y) : IArr Y 12 96 := by
  obtain ⟨h1, cI, cII, cR, cS, h2, h3, h4, h5, h6⟩ := h
  exact ⟨by rw [h1]; decide, cI, 0, h2, fun r => by rw [h6]; rfl⟩
theorem C_13 {Y : SYS} (h : IsC Y) : IArr Y 13 96 := by
  obtain ⟨h1, cI, cII, cR, cS, h2, h3, h4, h5, h6⟩ := h
  exact ⟨by rw [h1]; decide, cI, 0, h2, fun r => by rw [h6]; rfl⟩
theorem C_14 {Y : SYS} (h : IsC Y) : IArr Y 14 96 := by
  obtain ⟨h1, cI, cII, cR, cS, h2, h3, h4, h5, h6⟩ := h
  exact ⟨by rw [h1]; decide, cI, 0, h2, fun r => by rw [h6]; rfl⟩
theorem C_15 {Y : SYS} (h : IsC Y) : IArr Y 15 96 := by
  obtain ⟨h1, cI, cII, cR, cS, h2, h3, h4, h5, h6⟩ := h
  exact ⟨by rw [h1]; decide, cI, 0, h2, fun r => by rw [h6]; rfl⟩
theorem C_16 {Y : SYS} (h : IsC Y) : IArr Y 16 96 := by
  obtain ⟨h1, cI, cII, cR, cS, h2, h3, h4, h5, h6⟩ := h
  exact ⟨by rw [h1]; decide, cI, 0, h2, fun r => by rw [h6]; rfl⟩
theorem C_17 {Y : SYS} (h : IsC Y) : IArr Y 17 96 := by
  obtain ⟨h1, cI, cII, cR, cS, h2, h3, h4, h5, h6⟩ := h
  exact ⟨by rw [h1]; decide, cI, 0, h2, fun r => by rw [h6]; rfl⟩
theorem C_18 {Y : SYS} (h : IsC Y) : IArr Y 18 96 := by
  obtain ⟨h1, cI, cII, cR, cS, h2, h3, h4, h5, h6⟩ := h
  exact ⟨by rw [h1]; decide, cI, 0, h2, fun r => by rw [h6]; rfl⟩
theorem C_19 {Y : SYS} (h : IsC Y) : IArr Y 19 96 := by
  obtain ⟨h1, cI, cII, cR, cS, h2, h3, h4, h5, h6⟩ := h
  exact ⟨by rw [h1]; decide, cI, 0, h2, fun r => by rw [h6]; rfl⟩
theorem C_20 {Y : SYS} (h : IsC Y) : IArr Y 20 96 := by
  obtain ⟨h1, cI, cII, cR, cS, h2, h3, h4, h5, h6⟩ := h
  exact ⟨by rw [h1]; decide, cI, 0, h2, fun r => by rw [h6]; rfl⟩
theorem C_22 {Y : SYS} (h : IsC Y) : IArr Y 22 10 := by
  obtain ⟨h1, cI, cII, cR, cS, h2, h3, h4, h5, h6⟩ := h
  exact ⟨by rw [h1]; decide, cI, 0, h2, fun r => by rw [h6]; rfl⟩
theorem C_23 {Y : SYS} (h : IsC Y) : IArr Y 23 10 := by
  obtain ⟨h1, cI, cII, cR, cS, h2, h3, h4, h5, h6⟩ := h
  exact ⟨by rw [h1]; decide, cI, 0, h2, fun r => by rw [h6]; rfl⟩
theorem C_24 {Y : SYS} (h : IsC Y) : IArr Y 24 10 := by
  obtain ⟨h1, cI, cII, cR, cS, h2, h3, h4, h5, h6⟩ := h
  exact ⟨by rw [h1]; decide, cI, 0, h2, fun r => by rw [h6]; rfl⟩
theorem C_25 {Y : SYS} (h : IsC Y) : IArr Y 25 10 := by
  obtain ⟨h1, cI, cII, cR, cS, h2, h3, h4, h5, h6⟩ := h
  exact ⟨by rw [h1]; decide, cI, 0, h2, fun r => by rw [h6]; rfl⟩
theorem C_27 {Y : SYS} (h : IsC Y) : IArr Y 27 10 := by
  obtain ⟨h1, cI, cII, cR, cS, h2, h3, h4, h5, h6⟩ := h
  exact ⟨by rw [h1]; decide, cI, 0, h2, fun r => by rw [h6]; rfl⟩
theorem C_28 {Y : SYS} (h : IsC Y) : IArr Y 28 10 := by
  obtain ⟨h1, cI, cII, cR, cS, h2, h3, h4, h5, h6⟩ := h
  exact ⟨by rw [h1]; decide, cI, 0, h2, fun r => by rw [h6]; rfl⟩
theorem C_29 {Y : SYS} (h : IsC Y) : IArr Y 29 10 := by
  obtain ⟨h1, cI, cII, cR, cS, h2, h3, h4, h5, h6⟩ := h
  exact ⟨by rw [h1]; decide, cI, 0, h2, fun r => by rw [h6]; rfl⟩
theorem C_30 {Y : SYS} (h : IsC Y) : IArr Y 30 10 := by
  obtain ⟨h1, cI, cII, cR, cS, h2, h3, h4, h5, h6⟩ := h
  exact ⟨by rw [h1]; decide, cI, 0, h2, fun r => by rw [h6]; rfl⟩
theorem C_32 {Y : SYS} (h : IsC Y) : IArr Y 32 10 := by
  obtain ⟨h1, cI, cII, cR, cS, h2, h3, h4, h5, h6⟩ := h
  exact ⟨by rw [h1]; decide, cI, 0, h2, fun r => by rw [h6]; rfl⟩
theorem C_33 {Y : SYS} (h : IsC Y) : IArr Y 33 10 := by
  obtain ⟨h1, cI, cII, cR, cS, h2, h3, h4, h5, h6⟩ := h
  exact ⟨by rw [h1]; decide, cI, 0, h2, fun r => by rw [h6]; rfl⟩
theorem C_34 {Y : SYS} (h : IsC Y) : IArr Y 34 10 := by
  obtain ⟨h1, cI, cII, cR, cS, h2, h3, h4, h5, h6⟩ := h
  exact ⟨by rw [h1]; decide, cI, 0, h2, fun r => by rw [h6]; rfl⟩
theorem C_35 {Y : SYS} (h : IsC Y) : IArr Y 35 10 := by
  obtain ⟨h1, cI, cII, cR, cS, h2, h3, h4, h5, h6⟩ := h
  exact ⟨by rw [h1]; decide, cI, 0, h2, fun r => by rw [h6]; rfl⟩
theorem C_37 {Y : SYS} (h : IsC Y) : IArr Y 37 1024 := by
  obtain ⟨h1, cI, cII, cR, cS, h2, h3, h4, h5, h6⟩ := h
  exact ⟨by rw [h1]; decide, cI, 0, h2, fun r => by rw [h6]; rfl⟩
theorem C_39 {Y : SYS} (h : IsC Y) : IArr Y 39 96 := by
  obtain ⟨h1, cI, cII, cR, cS, h2, h3, h4, h5, h6⟩ := h
  exact ⟨by rw [h1]; decide, cI, 0, h2, fun r => by rw [h6]; rfl⟩
theorem C_40 {Y : SYS} (h : IsC Y) : IArr Y 40 96 := by
  obtain ⟨h1, cI, cII, cR, cS, h2, h3, h4, h5, h6⟩ := h
  exact ⟨by rw [h1]; decide, cI, 0, h2, fun r => by rw [h6]; rfl⟩
theorem C_43 {Y : SYS} (h : IsC Y) : IArr Y 43 24 := by
  obtain ⟨h1, cI, cII, cR, cS, h2, h3, h4, h5, h6⟩ := h
  exact ⟨by rw [h1]; decide, cI, 0, h2, fun r => by rw [h6]; rfl⟩
theorem C_45 {Y : SYS} (h : IsC Y) : IArr Y 45 24 := by
  obtain ⟨h1, cI, cII, cR, cS, h2, h3, h4, h5, h6⟩ := h
  exact ⟨by rw [h1]; decide, cI, 0, h2, fun r => by rw [h6]; rfl⟩
theorem C_47 {Y : SYS} (h : IsC Y) : IArr Y 47 24 := by
  obtain ⟨h1, cI, cII, cR, cS, h2, h3, h4, h5, h6⟩ := h
  exact ⟨by rw [h1]; decide, cI, 0, h2, fun r => by rw [h6]; rfl⟩
theorem C_49 {Y : SYS} (h : IsC Y) : IArr Y 49 24 := by
  obtain ⟨h1, cI, cII, cR, cS, h2, h3, h4, h5, h6⟩ := h
  exact ⟨by rw [h1]; decide, cI, 0, h2, fun r => by rw [h6]; rfl⟩
theorem C_53 {Y : SYS} (h : IsC Y) : IArr Y 53 24 := by
  obtain ⟨h1, cI, cII, cR, cS, h2, h3, h4, h5, h6⟩ := h
  exact ⟨by rw [h1]; decide, cI, 0, h2, fun r => by rw [h6]; rfl⟩
theorem C_56 {Y : SYS} (h : IsC Y) : IArr Y 56 24 := by
  obtain ⟨h1, cI, cII, cR, cS, h2, h3, h4, h5, h6⟩ := h
  exact ⟨by rw [h1]; decide, cI, 0, h2, fun r => by rw [h6]; rfl⟩
theorem C_59 {Y : SYS} (h : IsC Y) : IArr Y 59 24 := by
  obtain ⟨h1, cI, cII, cR, cS, h2, h3, h4, h5, h6⟩ := h
  exact ⟨by rw [h1]; decide, cI, 0, h2, fun r => by rw [h6]; rfl⟩
theorem C_62 {Y : SYS} (h : IsC Y) : IArr Y 62 24 := by
  obtain ⟨h1, cI, cII, cR, cS, h2, h3, h4, h5, h6⟩ := h
  exact ⟨by rw [h1]; decide, cI, 0, h2, fun r => by rw [h6]; rfl⟩
theorem C_65 {Y : SYS} (h : IsC Y) : IArr Y 65 24 := by
  obtain ⟨h1, cI, cII, cR, cS, h2, h3, h4, h5, h6⟩ := h
  exact ⟨by rw [h1]; decide, cI, 0, h2, fun r => by rw [h6]; rfl⟩
theorem C_66 {Y : SYS} (h : IsC Y) : IArr Y 66 60 := by
  obtain ⟨h1, cI, cII, cR, cS, h2, h3, h4, h5, h6⟩ := h
  exact ⟨by rw [h1]; decide, cI, 0, h2, fun r => by rw [h6]; rfl⟩
theorem C_steps {Y : SYS} (h : IsC Y) : RArrT Y 5 14 (fun k => 7 + k) := by
  obtain ⟨h1, cI, cII, cR, cS, h2, h3, h4, h5, h6⟩ := h
  exact ⟨by rw [h1]; decide, _, 1, (.array .int), rfl, h3, fun r => by rw [h6]; rfl⟩
theorem C_sheets {Y : SYS} (h : IsC Y) : RArrT Y 41 4 (fun k => 42 + 2 * k) := by
  obtain ⟨h1, cI, cII, cR, cS, h2, h3, h4, h5, h6⟩ := h
  exact ⟨by rw [h1]; decide, _, 2, (.object "HalfFriends$Row"), rfl, h4, fun r => by rw [h6]; rfl⟩
theorem C_slots {Y : SYS} (h : IsC Y) : RArrT Y 50 5 (fun k => 51 + 3 * k) := by
  obtain ⟨h1, cI, cII, cR, cS, h2, h3, h4, h5, h6⟩ := h
  exact ⟨by rw [h1]; decide, _, 3, (.object "HalfFriends$Slot"), rfl, h5, fun r => by rw [h6]; rfl⟩
theorem C_stepsAt {Y : SYS} (h : IsC Y) {k : Nat} (hk : k < 14) : IArr Y (7 + k) 96 := by
  rcases (by omega : k = 0 ∨ k = 1 ∨ k = 2 ∨ k = 3 ∨ k = 4 ∨ k = 5 ∨ k = 6 ∨ k = 7 ∨ k = 8 ∨ k = 9 ∨ k = 10 ∨ k = 11 ∨ k = 12 ∨ k = 13) with rfl | rfl | rfl | rfl | rfl | rfl | rfl | rfl | rfl | rfl | rfl | rfl | rfl | rfl
  · exact C_7 h
  · exact C_8 h
  · exact C_9 h
  · exact C_10 h
  · exact C_11 h
  · exact C_12 h
  · exact C_13 h
  · exact C_14 h
  · exact C_15 h
  · exact C_16 h
  · exact C_17 h
  · exact C_18 h
  · exact C_19 h
  · exact C_20 h
theorem C_town {Y : SYS} (h : IsC Y) {b : Nat} (hb : TownAt b) : Obj Y b 5 (fsTown (sq Y) b) := by
  obtain ⟨h1, cI, cII, cR, cS, h2, h3, h4, h5, h6⟩ := h
  rcases hb with rfl | rfl | rfl <;> exact ⟨by rw [h1]; decide, fun r => by rw [h6]; rfl⟩
theorem C_town1 {Y : SYS} (h : IsC Y) {b : Nat} (hb : TownAt b) : IArr Y (b + 1) 10 := by
  rcases hb with rfl | rfl | rfl
  · exact C_22 h
  · exact C_27 h
  · exact C_32 h
theorem C_town2 {Y : SYS} (h : IsC Y) {b : Nat} (hb : TownAt b) : IArr Y (b + 2) 10 := by
  rcases hb with rfl | rfl | rfl
  · exact C_23 h
  · exact C_28 h
  · exact C_33 h
theorem C_town3 {Y : SYS} (h : IsC Y) {b : Nat} (hb : TownAt b) : IArr Y (b + 3) 10 := by
  rcases hb with rfl | rfl | rfl
  · exact C_24 h
  · exact C_29 h
  · exact C_34 h
theorem C_town4 {Y : SYS} (h : IsC Y) {b : Nat} (hb : TownAt b) : IArr Y (b + 4) 10 := by
  rcases hb with rfl | rfl | rfl
  · exact C_25 h
  · exact C_30 h
  · exact C_35 h
theorem C_slot {Y : SYS} (h : IsC Y) {b : Nat} (hb : SlotAt b) : Obj Y b 4 (fsSlot (sq Y) b) := by
  obtain ⟨h1, cI, cII, cR, cS, h2, h3, h4, h5, h6⟩ := h
  obtain ⟨k, hk, rfl⟩ := hb
  refine lt_5 (P := fun k => Obj Y (51 + 3 * k) 4 (fsSlot (sq Y) (51 + 3 * k))) ?_ ?_ ?_ ?_ ?_ hk <;> exact ⟨by rw [h1]; decide, fun r => by rw [h6]; rfl⟩
theorem C_row {Y : SYS} (h : IsC Y) {b : Nat} (hb : RowAt b) : Obj Y b 3 (fsRow (sq Y) b) := by
  obtain ⟨h1, cI, cII, cR, cS, h2, h3, h4, h5, h6⟩ := h
  rcases hb with ⟨k, hk, rfl⟩ | ⟨k, hk, rfl⟩
  · refine lt_4 (P := fun k => Obj Y (42 + 2 * k) 3 (fsRow (sq Y) (42 + 2 * k))) ?_ ?_ ?_ ?_ hk <;> exact ⟨by rw [h1]; decide, fun r => by rw [h6]; rfl⟩
  · refine lt_5 (P := fun k => Obj Y (51 + 3 * k + 1) 3 (fsRow (sq Y) (51 + 3 * k + 1))) ?_ ?_ ?_ ?_ ?_ hk <;> exact ⟨by rw [h1]; decide, fun r => by rw [h6]; rfl⟩
theorem C_row1 {Y : SYS} (h : IsC Y) {b : Nat} (hb : RowAt b) : IArr Y (b + 1) 24 := by
  rcases hb with ⟨k, hk, rfl⟩ | ⟨k, hk, rfl⟩
  · exact lt_4 (P := fun k => IArr Y (42 + 2 * k + 1) 24) (C_43 h) (C_45 h) (C_47 h) (C_49 h) hk
  · exact lt_5 (P := fun k => IArr Y (51 + 3 * k + 1 + 1) 24) (C_53 h) (C_56 h) (C_59 h) (C_62 h) (C_65 h) hk
theorem SlotAt.row {b : Nat} (h : SlotAt b) : RowAt (b + 1) := by
  obtain ⟨k, hk, rfl⟩ := h
  exact RowAt.slot hk
-- switches
theorem ne_ti {x c : Int32} {k : Int} (hk : c.toInt = k) (h : ¬ x = c) : x.toInt ≠ k := fun e => h (Int32.toInt_inj.mp (e.trans hk.symm))
def nm {α ρ : Type} (x : α) (F : α → Option ρ) : Option ρ := F x
theorem lpF_s {V X ρ : Type} {body : V → Option (V ⊕ X)} {P : V → Prop} {n : Nat} {v0 : V} {F : X → Option ρ} {r : ρ} (hf : bn1 (lpF body n v0) F = some r) (hstep : ∀ (v : V) (z : V ⊕ X), body v = some z → (∀ v', z = .inl v' → P v') → (∀ x, z = .inr x → F x = some r) → P v) : P v0 := by
  obtain ⟨x, h1, h2⟩ := bn1_i hf
  exact lpF_i (K := fun x => F x = some r) hstep n v0 x h1 h2
section GS
variable {Y : SYS} {G : GT} {own : String} {cc : ByteArray} {nL : Nat} {R : Room} {pc : Nat} {lv lv' : List (Nat × Value)} {st rest : List Value} {μ : Mem}
theorem g_nmi {ρ : Type} {x : Int32} {F : Int32 → Option ρ} {r : ρ} (hf : nm x F = some r) (kk : ∀ y, F y = some r → G pc lv (.int y :: st) μ) : G pc lv (.int x :: st) μ := kk x hf
theorem g_nmm {ρ : Type} {F : Mem → Option ρ} {r : ρ} (hf : nm μ F = some r) (kk : ∀ m, F m = some r → G pc lv st m) : G pc lv st μ := kk μ hf
theorem g_tin (Γ : IsG Y G own cc nL R) {dflt lo hi : Int} {offs : Array Int} {len : Nat} {x : Int32} (c : Int32) {off : Int} {tgt : Nat} (hd : decode cc pc = .ok (.tableswitch dflt lo hi offs, len)) (hx : x = c) (h1 : ¬ c.toInt < lo) (h2 : ¬ hi < c.toInt) (ho : offs[(c.toInt - lo).toNat]? = some off) (ht : (pc : Int) + off = (tgt : Int)) (kk : G tgt lv st μ) : G pc lv (.int x :: st) μ := by
  subst hx
  exact g_tableIn Γ hd h1 h2 ho ht kk
theorem g_lin (Γ : IsG Y G own cc nL R) {dflt : Int} {ps : Array (Int × Int)} {len : Nat} {x : Int32} (c : Int32) {off : Int} {tgt : Nat} (hd : decode cc pc = .ok (.lookupswitch dflt ps, len)) (hx : x = c) (hp : (ps.toList.zip (ps.toList.drop 1)).all (fun (a, next) => a.1 < next.1) = true) (ho : Op.lookupswitch.offset ps.toList dflt c.toInt = off) (ht : (pc : Int) + off = (tgt : Int)) (kk : G tgt lv st μ) : G pc lv (.int x :: st) μ := by
  subst hx
  exact g_lookup Γ hd hp ho ht kk
end GS
theorem g_callVI {Y : SYS} {G : GT} {own : String} {cc : ByteArray} {nL : Nat} {R : Room} {pc : Nat} {lv : List (Nat × Value)} {st : List Value} {μ : Mem} (Γ : IsG Y G own cc nL R) {y : MethodName} {cc' : ByteArray} {n' d k index i ci : Nat} {ret : Option FieldType} {fs : (Nat → Int32) → List Value} {as st0 : List Value} {x : Int32} {m1 : Mem} {T : u_T} {N : Nat} (hd : decode cc pc = .ok (.invokevirtual index, 3)) (hM : KC Y y cc' n' ret d (.ref (sq Y i) :: as) μ (some (.int x)) m1) (hO : Obj Y i ci fs) (hcl : vwCl[ci]? = some (y.cls, T, N)) (hI : MI y cc' n' ret k) (hV : MV y) (hw : Cond.methodLink own index y ∈ WL) (hk : as.length = k) (hR : d + 1 ≤ R.frames ∧ 8 + (n' + 11) + 40 * d ≤ R.locals) (hst : st0 = as.reverse ++ .ref (sq Y i) :: st) (hcat : (st.map fun v => v.category).sum ≤ 8) (kk : G (pc + 3) lv (.int x :: st) m1) : G pc lv st0 μ := g_callV Γ hd hM hO hcl hI hV hw hk hR hst hcat kk
theorem g_callVA {Y : SYS} {G : GT} {own : String} {cc : ByteArray} {nL : Nat} {R : Room} {pc : Nat} {lv : List (Nat × Value)} {st : List Value} {μ : Mem} (Γ : IsG Y G own cc nL R) {y : MethodName} {cc' : ByteArray} {n' d k index i ci : Nat} {ret : Option FieldType} {fs : (Nat → Int32) → List Value} {as st0 : List Value} {x : Nat} {m1 : Mem} {T : u_T} {N : Nat} (hd : decode cc pc = .ok (.invokevirtual index, 3)) (hM : KC Y y cc' n' ret d (.ref (sq Y i) :: as) μ (some (.ref x)) m1) (hO : Obj Y i ci fs) (hcl : vwCl[ci]? = some (y.cls, T, N)) (hI : MI y cc' n' ret k) (hV : MV y) (hw : Cond.methodLink own index y ∈ WL) (hk : as.length = k) (hR : d + 1 ≤ R.frames ∧ 8 + (n' + 11) + 40 * d ≤ R.locals) (hst : st0 = as.reverse ++ .ref (sq Y i) :: st) (hcat : (st.map fun v => v.category).sum ≤ 8) (kk : G (pc + 3) lv (.ref x :: st) m1) : G pc lv st0 μ := g_callV Γ hd hM hO hcl hI hV hw hk hR hst hcat kk
theorem g_callSI {Y : SYS} {G : GT} {own : String} {cc : ByteArray} {nL : Nat} {R : Room} {pc : Nat} {lv : List (Nat × Value)} {st : List Value} {μ : Mem} (Γ : IsG Y G own cc nL R) {y : MethodName} {cc' : ByteArray} {n' d k index : Nat} {ret : Option FieldType} {as st0 : List Value} {x : Int32} {m1 : Mem} (hd : decode cc pc = .ok (.invokestatic index, 3)) (hM : KC Y y cc' n' ret d as μ (some (.int x)) m1) (hI : MI y cc' n' ret k) (hV : MS y) (hw : Cond.methodLink own index y ∈ WL) (hk : as.length = k) (hR : d + 1 ≤ R.frames ∧ 8 + (n' + 11) + 40 * d ≤ R.locals) (hst : st0 = as.reverse ++ st) (hcat : (st.map fun v => v.category).sum ≤ 8) (kk : G (pc + 3) lv (.int x :: st) m1) : G pc lv st0 μ := g_callS Γ hd hM hI hV hw hk hR hst hcat kk
theorem g_callSA {Y : SYS} {G : GT} {own : String} {cc : ByteArray} {nL : Nat} {R : Room} {pc : Nat} {lv : List (Nat × Value)} {st : List Value} {μ : Mem} (Γ : IsG Y G own cc nL R) {y : MethodName} {cc' : ByteArray} {n' d k index : Nat} {ret : Option FieldType} {as st0 : List Value} {x : Nat} {m1 : Mem} (hd : decode cc pc = .ok (.invokestatic index, 3)) (hM : KC Y y cc' n' ret d as μ (some (.ref x)) m1) (hI : MI y cc' n' ret k) (hV : MS y) (hw : Cond.methodLink own index y ∈ WL) (hk : as.length = k) (hR : d + 1 ≤ R.frames ∧ 8 + (n' + 11) + 40 * d ≤ R.locals) (hst : st0 = as.reverse ++ st) (hcat : (st.map fun v => v.category).sum ≤ 8) (kk : G (pc + 3) lv (.ref x :: st) m1) : G pc lv st0 μ := g_callS Γ hd hM hI hV hw hk hR hst hcat kk
theorem g_callVV {Y : SYS} {G : GT} {own : String} {cc : ByteArray} {nL : Nat} {R : Room} {pc : Nat} {lv : List (Nat × Value)} {st : List Value} {μ : Mem} (Γ : IsG Y G own cc nL R) {y : MethodName} {cc' : ByteArray} {n' d k index i ci : Nat} {ret : Option FieldType} {fs : (Nat → Int32) → List Value} {as st0 : List Value} {m1 : Mem} {T : u_T} {N : Nat} (hd : decode cc pc = .ok (.invokevirtual index, 3)) (hM : KC Y y cc' n' ret d (.ref (sq Y i) :: as) μ none m1) (hO : Obj Y i ci fs) (hcl : vwCl[ci]? = some (y.cls, T, N)) (hI : MI y cc' n' ret k) (hV : MV y) (hw : Cond.methodLink own index y ∈ WL) (hk : as.length = k) (hR : d + 1 ≤ R.frames ∧ 8 + (n' + 11) + 40 * d ≤ R.locals) (hst : st0 = as.reverse ++ .ref (sq Y i) :: st) (hcat : (st.map fun v => v.category).sum ≤ 8) (kk : G (pc + 3) lv st m1) : G pc lv st0 μ := g_callV Γ hd hM hO hcl hI hV hw hk hR hst hcat kk
theorem rA {Y : SYS} {G : GT} {cc : ByteArray} {x v : Nat} {μ : Mem} {pc : Nat} {lv : List (Nat × Value)} (h : RetA G cc (sK Y x) μ) (hd : decode cc pc = .ok (.areturn, 1)) (hf : some v = some x) : G pc lv [.ref (sK Y v)] μ := by
  cases hf
  exact h pc lv hd
-- room of a group of methods that call one another: n levels more
theorem rm_1 (a n : Nat) (h : 0 < a) : 1 ≤ (RM (a + n)).frames := by show 1 ≤ a + n; omega
theorem rm_f (d a n : Nat) (h : d < a) : d + 1 ≤ (RM (a + (n + 1))).frames := by show d + 1 ≤ a + (n + 1); omega
theorem rm_l (k d a n : Nat) (h : d ≤ a) (hk : k ≤ 21) : 8 + (k + 11) + 40 * d ≤ (RM (a + (n + 1))).locals := by show 8 + (k + 11) + 40 * d ≤ 40 * (a + (n + 1)); omega
theorem rm_fs (a n : Nat) : a + n + 1 ≤ (RM (a + (n + 1))).frames := by show a + n + 1 ≤ a + (n + 1); omega
theorem rm_ls (k a n : Nat) (hk : k ≤ 21) : 8 + (k + 11) + 40 * (a + n) ≤ (RM (a + (n + 1))).locals := by show 8 + (k + 11) + 40 * (a + n) ≤ 40 * (a + (n + 1)); omega
