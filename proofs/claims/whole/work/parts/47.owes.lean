/-! WHAT EACH OWES; TOLD, FEE, FINE -/
def clN (x : Int32) : Nat := if 999 < x then 999 else if 0 < x then x.toNatClampNeg else 0
theorem clN_le (x : Int32) : clN x ≤ 999 := by
  unfold clN
  by_cases h : 999 < x
  · rw [if_pos h]
    omega
  · rw [if_neg h]
    by_cases h2 : 0 < x
    · rw [if_pos h2]
      have a1 : x.toInt ≤ 999 := Int.not_lt.mp (fun z => h (Int32.lt_iff_toInt_lt.mpr z))
      have a2 : 0 < x.toInt := Int32.lt_iff_toInt_lt.mp h2
      obtain ⟨k, hk, e⟩ := upto (x := x) (n := 999) ⟨by omega, a1⟩ rfl
      rw [e, nI_clamp (by omega)]
      exact hk
    · rw [if_neg h2]
      omega
theorem clw_C (x : Int32) : (if 0 < (if 999 < x then 999 else x) then (if 999 < x then 999 else x) else 0) = nI (clN x) := by
  unfold clN
  by_cases h : 999 < x
  · rw [if_pos h, if_pos h]
    rfl
  · rw [if_neg h, if_neg h]
    by_cases h2 : 0 < x
    · rw [if_pos h2, if_pos h2]
      have a1 : x.toInt ≤ 999 := Int.not_lt.mp (fun z => h (Int32.lt_iff_toInt_lt.mpr z))
      have a2 : 0 < x.toInt := Int32.lt_iff_toInt_lt.mp h2
      obtain ⟨k, hk, e⟩ := upto (x := x) (n := 999) ⟨by omega, a1⟩ rfl
      rw [e, nI_clamp (by omega)]
    · rw [if_neg h2, if_neg h2]
      rfl
theorem clw_M (x : Int32) : f_X8_within x 0 999 = some (nI (clN x)) := by
  unfold f_X8_within clN
  have e0 : (0 : Int32).toInt = 0 := rfl
  have e9 : (999 : Int32).toInt = 999 := rfl
  by_cases h : 999 < x
  · have := Int32.lt_iff_toInt_lt.mp h
    rw [if_pos h, if_pos (Int32.le_iff_toInt_le.mpr (by omega)), if_neg (fun z => by have := Int32.le_iff_toInt_le.mp z; omega)]
    rfl
  · have a1 : x.toInt ≤ 999 := Int.not_lt.mp (fun z => h (Int32.lt_iff_toInt_lt.mpr z))
    have p9 : x ≤ 999 := Int32.le_iff_toInt_le.mpr a1
    rw [if_neg h]
    by_cases h2 : 0 < x
    · have a2 : 0 < x.toInt := Int32.lt_iff_toInt_lt.mp h2
      rw [if_pos h2, if_pos (show 0 ≤ x from Int32.le_iff_toInt_le.mpr (by omega)), if_pos p9]
      obtain ⟨k, hk, e⟩ := upto (x := x) (n := 999) ⟨by omega, a1⟩ rfl
      rw [e, nI_clamp (by omega)]
    · rw [if_neg h2]
      by_cases h3 : 0 ≤ x
      · have a3 := Int32.le_iff_toInt_le.mp h3
        have a2 : x.toInt ≤ 0 := Int.not_lt.mp (fun z => h2 (Int32.lt_iff_toInt_lt.mpr z))
        rw [if_pos h3, if_pos p9, Int32.toInt_inj.mp (show x.toInt = (0 : Int32).toInt by omega)]
        rfl
      · rw [if_neg h3]
        rfl
theorem clN_n {v : Nat} (h : v ≤ 999) : clN (nI v) = v := by
  unfold clN
  rw [if_neg (show ¬ (999 : Int32) < nI v from nI_nlt (a := 999) h (by omega))]
  by_cases h2 : 0 < v
  · rw [if_pos (show (0 : Int32) < nI v from nI_lt (a := 0) h2 (by omega)), nI_clamp (by omega)]
  · rw [if_neg (show ¬ (0 : Int32) < nI v from nI_nlt (a := 0) (b := v) (by omega) (by omega))]
    omega
/-- what a kind owes where v is due -/
def kO (kd v : Nat) : Nat := if kd = 1 then v / 2 else if kd = 2 then v - 4 else if kd = 3 then v / 2 + 2 else if kd = 4 then v - 4 else if kd = 5 then 2 * v else v
theorem kO_le (kd : Nat) {v : Nat} (h : v ≤ 999) : kO kd v ≤ 1998 := by
  unfold kO
  repeat' split
  all_goals omega
theorem sub4 (v : Nat) (h : v ≤ 999) : (if nI v - 4 < 0 then 0 else nI v - 4) = nI (v - 4) ∧ (if 4 ≤ nI v then some (nI v - 4) else some 0) = some (nI (v - 4)) := by
  by_cases h4 : 4 ≤ v
  · have e : nI v - 4 = nI (v - 4) := pk_sub h4
    rw [e, if_neg (nI_pos (by omega)), if_pos (show (4 : Int32) ≤ nI v from nI_le (a := 4) h4 (by omega))]
    exact ⟨rfl, rfl⟩
  · have e : nI v - 4 < 0 := pk_sneg (a := v) (b := 4) (by omega) (by omega)
    rw [if_pos e, if_neg (show ¬ (4 : Int32) ≤ nI v from nI_ge (b := 4) (by omega) (by omega)), show v - 4 = 0 by omega]
    exact ⟨rfl, rfl⟩
theorem dvn (v : Nat) (h : v ≤ 999) : dvM (nI v) 2 = some (nI (v / 2)) := by
  rw [dv2]
  congr 1
  exact pk_div (d := 2) (by omega) (by omega) (by omega)
theorem owes1_C {kd v : Nat} (hk : kd ≤ 5) (h : v ≤ 999) : f_X1_owes (nI kd) (nI v) = some (nI (kO kd v)) := by
  obtain ⟨s1, s2⟩ := sub4 v h
  unfold f_X1_owes
  rw [dvn v h, bs, bs, s1]
  rcases (by omega : kd = 0 ∨ kd = 1 ∨ kd = 2 ∨ kd = 3 ∨ kd = 4 ∨ kd = 5) with rfl | rfl | rfl | rfl | rfl | rfl
  · rfl
  · rfl
  · rfl
  · show some (nI (v / 2) + nI 2) = _
    rw [nI_add]
    rfl
  · rfl
  · show some (nI 2 * nI v) = _
    rw [pk_mul]
    rfl
theorem owes1_M {a : AT} {ν : Mem} (hV : AV a) (hM : AM a (ν 1)) {k v : Nat} (hk : k < tN a) (h : v ≤ 999) : f_X8_dues_J72 (nI k) (nI v) ν = some (nI (kO (tK a k).toNatClampNeg v), ν) := by
  obtain ⟨s1, s2⟩ := sub4 v h
  obtain ⟨kd, hkd, e⟩ := (hV.2.2.1 k hk).1
  have s3 : (if 4 ≤ nI v then some (nI v - 4, ν) else some ((0 : Int32), ν)) = some (nI (v - 4), ν) := by
    by_cases c : (4 : Int32) ≤ nI v
    · rw [if_pos c] at s2 ⊢
      rw [Option.some.inj s2]
    · rw [if_neg c] at s2 ⊢
      rw [Option.some.inj s2]
  unfold f_X8_dues_J72
  rw [of_0 hV hM hk, bs, dvn v h, bs, bs, s3, e, nI_clamp (by omega)]
  rcases (by omega : kd = 0 ∨ kd = 1 ∨ kd = 2 ∨ kd = 3 ∨ kd = 4 ∨ kd = 5) with rfl | rfl | rfl | rfl | rfl | rfl
  · rfl
  · rfl
  · rfl
  · show some (nI (v / 2) + nI 2, ν) = _
    rw [nI_add]
    rfl
  · rfl
  · show some (nI 2 * nI v, ν) = _
    rw [pk_mul]
    rfl
def w3 (x y z : Int32) : Nat → Int32 := fun k => if k = 0 then x else if k = 1 then y else z
/-- what the law of dues gives -/
def aRaw (t : TB) (a : AT) (k : Nat) : Int32 := match lst t 0 (tX a) with
  | none => nI (3 * aOff a k (tM a))
  | some i => pil (bK t i) (w3 (nI (aOff a k (tM a))) (nI (pc (tF a k))) (nI ((tM a).testBit k).toNat)) (bS t i) (bL t i) 0
def aDue (t : TB) (a : AT) (k : Nat) : Nat := kO (tK a k).toNatClampNeg (clN (aRaw t a k))
theorem aDue_le (t : TB) (a : AT) (k : Nat) : aDue t a k ≤ 1998 := kO_le _ (clN_le _)
section RO
variable {t : TB} {a : AT} {μ ν : Mem} {b : Nat}
theorem owes_C (hb : 6 < b) (hV : AV a) (h : AC a μ b) (hTV : TV t (tX a)) (hTC : TC t μ (tX a)) {k : Nat} (hk : k < tN a) : ∃ f, f_X6_owes b (nI k) μ = some (nI (aDue t a k), mrow μ 6 f) := by
  have x14 := (tX_eq hV).2
  have hn := hV.1
  obtain ⟨kd, hkd, ek⟩ := (hV.2.2.1 k hk).1
  have J : ∀ x m, m (b + 1) k = tK a k → f_X6_owes_J53 b (nI k) x m = some (nI (kO (tK a k).toNatClampNeg (clN x)), m) := fun x m hm => by
    unfold f_X6_owes_J53
    rw [nms, nms, clw_C, ldM_n (by omega) (by omega), bs, hm, ek, owes1_C hkd (clN_le x), bs, nI_clamp (by omega)]
  unfold f_X6_owes
  rw [offOf_C hV h hk, bs, b14 hV h, show f_X0_counts 0 (nI (tX a)) μ = some (lsX (lst t 0 (tX a))) from counts_C (key := 0) x14 (by omega) hTV hTC, bs]
  have el : aDue t a k = kO (tK a k).toNatClampNeg (clN (aRaw t a k)) := rfl
  rw [el]
  unfold aRaw
  cases hl : lst t 0 (tX a) with
  | none =>
    rw [show lsX none = (-1 : Int32) from rfl, if_pos (show (-1 : Int32) < 0 by decide), J _ _ (h.2.2.2 k hk).1, show (3 : Int32) * nI (aOff a k (tM a)) = nI (3 * aOff a k (tM a)) from pk_mul 3 _]
    exact ⟨μ 6, by rw [mrow_id]⟩
  | some i =>
    have hi := lst_lt t 0 _ i hl
    rw [show lsX (some i) = nI i from rfl, if_neg (nI_pos (by omega)), ldM_n (by omega) (by omega), bs, (h.2.2.2 k hk).2.2.2, bitCount_n _ (tF_lt hV hk), bs, mindOf_C hV h hk, bs]
    obtain ⟨f, e⟩ := gives_C x14 hi.1 hTV hTC (nI (aOff a k (tM a))) (nI (pc (tF a k))) (nI ((tM a).testBit k).toNat)
    rw [e, bs2]
    exact ⟨f, J _ _ (by rw [mrow_n (by omega)]; exact (h.2.2.2 k hk).1)⟩
/-- the names have been named -/
theorem names_1 {key : Nat} {q : Nat × Nat} (h : okS key q) (h1 : q.1 = 1) : (key = 0 ∧ (q.2 = 111 ∨ q.2 = 102 ∨ q.2 = 109)) ∨ (key = 1 ∧ (q.2 = 99 ∨ q.2 = 121)) ∨ (key = 2 ∧ (q.2 = 111 ∨ q.2 = 112)) := by
  rcases h with ⟨h, -⟩ | ⟨-, h⟩ | ⟨h, -⟩
  · omega
  · exact h
  · omega
theorem dues_M (hV : AV a) (h : AM a (ν 1)) (hTV : TV t (tX a)) (hTM : TM t (ν 1) (tX a)) {k : Nat} (hk : k < tN a) : ∃ ν', f_X8_dues (nI k) ν = some (nI (aDue t a k), ν') ∧ ∀ i, i ≠ 14 → i ≠ 15 → ν' i = ν i := by
  have hn := hV.1
  have x14 := (tX_eq hV).2
  have hoff := aOff_le a k (tM a)
  unfold f_X8_dues
  rw [offOf_M hV h hk, bs, show f_X8_counts 0 ν = some (lsX (lst t 0 (tX a))) from counts_M (key := 0) hV (by omega) h hTV hTM, bs]
  have el : aDue t a k = kO (tK a k).toNatClampNeg (clN (aRaw t a k)) := rfl
  rw [el]
  unfold aRaw
  cases hl : lst t 0 (tX a) with
  | none =>
    rw [show lsX none = (-1 : Int32) from rfl, if_pos (show (-1 : Int32) < 0 by decide), show (3 : Int32) * nI (aOff a k (tM a)) = nI (3 * aOff a k (tM a)) from pk_mul 3 _, owes1_M hV h hk (show 3 * aOff a k (tM a) ≤ 999 by omega)]
    dsimp only
    rw [clN_n (show 3 * aOff a k (tM a) ≤ 999 by omega)]
    exact ⟨ν, rfl, fun _ _ _ => rfl⟩
  | some i =>
    have hi := lst_lt t 0 _ i hl
    rw [show lsX (some i) = nI i from rfl, if_neg (nI_pos (by omega)), bs]
    rw [show (111 : Int32) = nI 111 from rfl, stM_n (by omega) (by omega), bs, show (4 : Int32) = nI 4 from rfl, show f_X8_of (nI k) (nI 4) (mset ν 14 111 (nI (aOff a k (tM a)))) = some (nI (tF a k)) from of_4 (a := a) hV (by rw [mset_n (by omega)]; exact h) hk, bs, manyIn_n _ (tF_lt hV hk), bs]
    rw [show (102 : Int32) = nI 102 from rfl, stM_n (by omega) (by omega), bs, show f_X8_of (nI k) 1 (mset (mset ν 14 111 (nI (aOff a k (tM a)))) 14 102 (nI (pc (tF a k)))) = some (nI ((tM a).testBit k).toNat) from of_1 (a := a) hV (by rw [mset_n (by omega), mset_n (by omega)]; exact h) hk, bs, show (109 : Int32) = nI 109 from rfl, stM_n (by omega) (by omega), bs]
    obtain ⟨f, e⟩ := worked_M (t := t) (a := a) (ν := mset (mset (mset ν 14 111 (nI (aOff a k (tM a)))) 14 102 (nI (pc (tF a k)))) 14 109 (nI ((tM a).testBit k).toNat)) hV hi.1 hTV (by rw [mset_n (by omega), mset_n (by omega), mset_n (by omega)]; exact hTM) (w3 (nI (aOff a k (tM a))) (nI (pc (tF a k))) (nI ((tM a).testBit k).toNat)) (fun j hj h1 => by
      have hk0 := hi.2
      rcases names_1 ((hTV i hi.1).2.2.1 j hj) h1 with ⟨-, hc⟩ | ⟨hc, -⟩ | ⟨hc, -⟩
      · rw [hk0]
        rcases hc with hc | hc | hc <;> rw [hc]
        · rw [mset_sn (by omega), mset_sn (by omega), mset_ss]
          rfl
        · rw [mset_sn (by omega), mset_ss]
          rfl
        · rw [mset_ss]
          rfl
      · omega
      · omega)
    rw [e, bs2, clw_M, bs]
    refine ⟨mrow (mset (mset (mset ν 14 111 (nI (aOff a k (tM a)))) 14 102 (nI (pc (tF a k)))) 14 109 (nI ((tM a).testBit k).toNat)) 15 f, owes1_M (a := a) hV (by rw [mrow_n (by omega), mset_n (by omega), mset_n (by omega), mset_n (by omega)]; exact h) hk (clN_le _), fun j j1 j2 => by rw [mrow_n j2, mset_n j1, mset_n j1, mset_n j1]⟩
end RO
theorem i_ne {m n : Nat} (hm : m < 2 ^ 31) (hn : n < 2 ^ 31) (h : m ≠ n) : ¬ nI m = nI n := fun z => h ((nI_eq hm hn).mp z)
theorem Step_1 : Step Rel C7_1 C8_1 := by
  intro a μ ν hR
  obtain ⟨t, w, ⟨hV, hY, hC, hM, hTM, hTV, hTC⟩, K⟩ := hR.rt
  have hn := hV.1
  unfold C7_1 C8_1 f_X7_told f_X8_told
  simp only [isNobody_C hV hC, isOne_M hV hM, bs, i01, i10]
  by_cases h1 : 0 ≤ (a 1).toInt ∧ (a 1).toInt ≤ (tN w : Int) - 1
  · obtain ⟨k, hk, e⟩ := isK_n (n := tN w) h1
    simp only [if_pos h1]
    rw [e]
    by_cases k0 : a 2 = 0
    · rw [k0, if_pos rfl, if_pos rfl, ldM_n (by omega) (by omega), bs, (hC.2.2.2 k hk).1, of_0 hV hM hk, bs]
      exact ⟨_, μ, ν, rfl, rfl, hR⟩
    · by_cases k1 : a 2 = 1
      · rw [if_neg k0, if_neg k0, if_pos k1, if_pos k1, k1, mindOf_C hV hC hk, bs, of_1 hV hM hk, bs]
        exact ⟨_, μ, ν, rfl, rfl, hR⟩
      · by_cases k2 : a 2 = 2
        · rw [if_neg k0, if_neg k0, if_neg k1, if_neg k1, if_pos k2, if_pos k2, k2, ldM_n (by omega) (by omega), bs, (hC.2.2.2 k hk).2.1, of_2 hV hM hk, bs]
          exact ⟨_, μ, ν, rfl, rfl, hR⟩
        · by_cases k3 : a 2 = 3
          · rw [if_neg k0, if_neg k0, if_neg k1, if_neg k1, if_neg k2, if_neg k2, if_pos k3, if_pos k3, k3, ldM_n (by omega) (by omega), bs, (hC.2.2.2 k hk).2.2.1, of_3 hV hM hk, bs]
            exact ⟨_, μ, ν, rfl, rfl, hR⟩
          · by_cases k4 : a 2 = 4
            · rw [if_neg k0, if_neg k0, if_neg k1, if_neg k1, if_neg k2, if_neg k2, if_neg k3, if_neg k3, if_pos k4, if_pos k4, k4, ldM_n (by omega) (by omega), bs, (hC.2.2.2 k hk).2.2.2, of_4 hV hM hk, bs]
              exact ⟨_, μ, ν, rfl, rfl, hR⟩
            · by_cases k5 : a 2 = 5
              · rw [if_neg k0, if_neg k0, if_neg k1, if_neg k1, if_neg k2, if_neg k2, if_neg k3, if_neg k3, if_neg k4, if_neg k4, if_pos k5, if_pos k5, offOf_C hV hC hk, bs, offOf_M hV hM hk, bs]
                exact ⟨_, μ, ν, rfl, rfl, hR⟩
              · by_cases k6 : a 2 = 6
                · obtain ⟨f, c1⟩ := owes_C (b := 21) (by omega) hV hC hTV hTC hk
                  obtain ⟨ν', c2, c3⟩ := dues_M hV hM hTV hTM hk
                  rw [if_neg k0, if_neg k0, if_neg k1, if_neg k1, if_neg k2, if_neg k2, if_neg k3, if_neg k3, if_neg k4, if_neg k4, if_neg k5, if_neg k5, if_pos k6, if_pos k6, c1, bs2, c2, bs2]
                  exact ⟨_, _, ν', rfl, rfl, hR.of (fun i i1 i2 i3 => mrow_n i1) (fun i i1 i2 i3 i4 i5 i6 => c3 i i3 i4)⟩
                · by_cases k7 : a 2 = 7
                  · rw [if_neg k0, if_neg k0, if_neg k1, if_neg k1, if_neg k2, if_neg k2, if_neg k3, if_neg k3, if_neg k4, if_neg k4, if_neg k5, if_neg k5, if_neg k6, if_neg k6, if_pos k7, if_pos k7, asks_C hV hC hk, bs, asks_M hV hM hk, bs]
                    exact ⟨_, μ, ν, rfl, rfl, hR⟩
                  · by_cases k8 : a 2 = 8
                    · obtain ⟨u, hu⟩ := worth_s (tK w k) (tP w k)
                      rw [if_neg k0, if_neg k0, if_neg k1, if_neg k1, if_neg k2, if_neg k2, if_neg k3, if_neg k3, if_neg k4, if_neg k4, if_neg k5, if_neg k5, if_neg k6, if_neg k6, if_neg k7, if_neg k7, if_pos k8, if_pos k8, ldM_n (by omega) (by omega), bs, ldM_n (by omega) (by omega), bs, (hC.2.2.2 k hk).1, (hC.2.2.2 k hk).2.1, worth_M hV hM hk, hu, bs, bs]
                      exact ⟨_, μ, ν, rfl, rfl, hR⟩
                    · rw [if_neg k0, if_neg k0, if_neg k1, if_neg k1, if_neg k2, if_neg k2, if_neg k3, if_neg k3, if_neg k4, if_neg k4, if_neg k5, if_neg k5, if_neg k6, if_neg k6, if_neg k7, if_neg k7, if_neg k8, if_neg k8]
                      exact ⟨_, μ, ν, rfl, rfl, hR⟩
  · simp only [if_neg h1]
    exact ⟨-1000000001, μ, ν, rfl, rfl, hR⟩
theorem Step_20 : Step Rel C7_20 C8_20 := by
  intro a μ ν hR
  obtain ⟨t, w, ⟨hV, hY, hC, hM, hTM, hTV, hTC⟩, K⟩ := hR.rt
  have x14 := (tX_eq hV).2
  unfold C7_20 C8_20 f_X7_fee f_X8_fee
  rw [b14 hV hC, show (1 : Int32) = nI 1 from rfl, counts_C x14 (by omega) hTV hTC, bs, counts_M hV (by omega) hM hTV hTM, bs, hC.2.2.1 10 (by omega) (by omega), hC.2.2.1 12 (by omega) (by omega)]
  rw [show ldM (ν 1) 3059 3 = some (tS w 10) from (ldk (k := 3) (by omega)).trans (by rw [hM.2.1.2.2.1]), bs, bs]
  cases hl : lst t 1 (tX w) with
  | none =>
    rw [show lsX none = (-1 : Int32) from rfl, if_neg (by decide), if_neg (by decide)]
    exact ⟨_, μ, ν, rfl, rfl, hR⟩
  | some i =>
    have hi := lst_lt t 1 _ i hl
    rw [show lsX (some i) = nI i from rfl, if_pos (nI_pos' (by omega)), if_pos (nI_pos' (by omega))]
    obtain ⟨f, e⟩ := gives_C x14 hi.1 hTV hTC (tS w 10) (tS w 12) 0
    rw [e, bs2, show (99 : Int32) = nI 99 from rfl, stM_n (by omega) (by omega), bs, mset_n (by omega), show ldM (ν 1) 3059 2 = some (tS w 12) from (ldk (k := 2) (by omega)).trans (by rw [hM.2.1.2.1]), bs, show (121 : Int32) = nI 121 from rfl, stM_n (by omega) (by omega), bs]
    obtain ⟨g, e2⟩ := worked_M (t := t) (a := w) (ν := mset (mset ν 14 99 (tS w 10)) 14 121 (tS w 12)) hV hi.1 hTV (by rw [mset_n (by omega), mset_n (by omega)]; exact hTM) (w3 (tS w 10) (tS w 12) 0) (fun j hj h1 => by
      have hk0 := hi.2
      rcases names_1 ((hTV i hi.1).2.2.1 j hj) h1 with ⟨hc, -⟩ | ⟨-, hc⟩ | ⟨hc, -⟩
      · omega
      · rw [hk0]
        rcases hc with hc | hc <;> rw [hc]
        · rw [mset_sn (by omega), mset_ss]
          rfl
        · rw [mset_ss]
          rfl
      · omega)
    rw [e2, bs2]
    exact ⟨_, _, _, rfl, rfl, hR.of (fun i i1 i2 i3 => mrow_n i1) (fun i i1 i2 i3 i4 i5 i6 => by rw [mrow_n i4, mset_n i3, mset_n i3])⟩
theorem Step_21 : Step Rel C7_21 C8_21 := by
  intro a μ ν hR
  obtain ⟨t, w, ⟨hV, hY, hC, hM, hTM, hTV, hTC⟩, K⟩ := hR.rt
  have x14 := (tX_eq hV).2
  have hn := hV.1
  unfold C7_21 C8_21 f_X7_fine f_X8_fine
  simp only [isNobody_C hV hC, isOne_M hV hM, bs, i01, i10]
  by_cases h1 : 0 ≤ (a 1).toInt ∧ (a 1).toInt ≤ (tN w : Int) - 1
  · obtain ⟨k, hk, ek⟩ := isK_n (n := tN w) h1
    simp only [if_pos h1]
    rw [ek, b14 hV hC, show (2 : Int32) = nI 2 from rfl, counts_C x14 (by omega) hTV hTC, bs, counts_M hV (by omega) hM hTV hTM, bs, offOf_C hV hC hk, bs, offOf_M hV hM hk, bs, bs]
    cases hl : lst t 2 (tX w) with
    | none =>
      rw [show lsX none = (-1 : Int32) from rfl, if_neg (by decide), if_neg (by decide)]
      exact ⟨_, μ, ν, rfl, rfl, hR⟩
    | some i =>
      have hi := lst_lt t 2 _ i hl
      rw [show lsX (some i) = nI i from rfl, if_pos (nI_pos' (by omega)), if_pos (nI_pos' (by omega)), ldM_n (by omega) (by omega), bs, (hC.2.2.2 k hk).2.2.1]
      obtain ⟨f, e⟩ := gives_C x14 hi.1 hTV hTC (nI (aOff w k (tM w))) (tU w k) 0
      rw [e, bs2, show (111 : Int32) = nI 111 from rfl, stM_n (by omega) (by omega), bs, show f_X8_of (nI k) 3 (mset ν 14 111 (nI (aOff w k (tM w)))) = some (tU w k) from of_3 (a := w) hV (by rw [mset_n (by omega)]; exact hM) hk, bs, show (112 : Int32) = nI 112 from rfl, stM_n (by omega) (by omega), bs]
      obtain ⟨g, e2⟩ := worked_M (t := t) (a := w) (ν := mset (mset ν 14 111 (nI (aOff w k (tM w)))) 14 112 (tU w k)) hV hi.1 hTV (by rw [mset_n (by omega), mset_n (by omega)]; exact hTM) (w3 (nI (aOff w k (tM w))) (tU w k) 0) (fun j hj h1 => by
        have hk0 := hi.2
        rcases names_1 ((hTV i hi.1).2.2.1 j hj) h1 with ⟨hc, -⟩ | ⟨hc, -⟩ | ⟨-, hc⟩
        · omega
        · omega
        · rw [hk0]
          rcases hc with hc | hc <;> rw [hc]
          · rw [mset_sn (by omega), mset_ss]
            rfl
          · rw [mset_ss]
            rfl)
      rw [e2, bs2]
      exact ⟨_, _, _, rfl, rfl, hR.of (fun i i1 i2 i3 => mrow_n i1) (fun i i1 i2 i3 i4 i5 i6 => by rw [mrow_n i4, mset_n i3, mset_n i3])⟩
  · simp only [if_neg h1]
    exact ⟨-1000000001, μ, ν, rfl, rfl, hR⟩
