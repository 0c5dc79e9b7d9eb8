/-! DRAWS, DEAL -/
def nx (z : Int32) : Int32 := z * 1103515245 + 12345
def drw (z : Int32) : Nat := (nx z).toBitVec.toNat / 2 ^ 8
def drawA (a : AT) : AT := setS a 13 (nx (tS a 13))
def drwA (a : AT) : Nat := drw (tS a 13)
theorem drw_lt (z : Int32) : drw z < 2 ^ 24 := by
  unfold drw
  have := (nx z).toBitVec.isLt
  omega
theorem of_bv (x : Int32) : x = nI x.toBitVec.toNat := by
  apply Int32.toBitVec_inj.1
  show x.toBitVec = BitVec.ofNat 32 x.toBitVec.toNat
  exact (BitVec.ofNat_toNat _ _ ▸ (by simp) : x.toBitVec = BitVec.ofNat 32 x.toBitVec.toNat)
theorem drw_v (z : Int32) : ((nx z).toUInt32 >>> ((8 : Int32).toUInt32 &&& Int32.toUInt32 31)).toInt32 = nI (drw z) := by
  have h := pk_ushr (nx z) 8 8 (by decide)
  rw [of_bv (((nx z).toUInt32 >>> ((8 : Int32).toUInt32 &&& Int32.toUInt32 31)).toInt32), h]
  rfl
theorem rm_n {x d : Nat} (hx : x < 2 ^ 31) (h0 : 0 < d) (hd : d < 2 ^ 31) : rmM (nI x) (nI d) = some (nI (x % d)) := by
  unfold rmM
  rw [if_neg (nI_ne0 h0 hd), pk_rem hx h0 hd]
section RJ
variable {a : AT} {μ ν : Mem} {b : Nat}
theorem AV_draw (hV : AV a) : AV (drawA a) := AV_S hV (fun z => absurd z (by decide)) (fun z => absurd z (by decide)) (fun z => absurd z (by decide)) (fun z => absurd z (by decide))
theorem draw_C (h : AC a μ b) : f_X6_draw b μ = some (nI (drwA a), mset μ b 13 (nx (tS a 13))) ∧ AC (drawA a) (mset μ b 13 (nx (tS a 13))) b := by
  refine ⟨?_, AC_S h (by omega)⟩
  unfold f_X6_draw
  rw [h.2.2.1 13 (by omega) (by omega), nms, mset_ss]
  show some (((nx (tS a 13)).toUInt32 >>> ((8 : Int32).toUInt32 &&& Int32.toUInt32 31)).toInt32, _) = _
  rw [drw_v]
  rfl
theorem draw_M (h : AM a (ν 1)) : f_X8_drawn ν = some (nI (drwA a), mset ν 1 5 (nx (tS a 13))) ∧ AM (drawA a) (mset ν 1 5 (nx (tS a 13)) 1) := by
  refine ⟨?_, by rw [mset_s]; exact AM_S h (i := 13) (by omega) (by omega)⟩
  unfold f_X8_drawn
  rw [show (5 : Int32) = nI 5 from rfl, ldk (by omega), bs, stM_n (by omega) (by omega), bs, ldk (by omega), bs, mset_ss, h.2.1.2.2.2.2.1]
  show some (((nx (tS a 13)).toUInt32 >>> ((8 : Int32).toUInt32 &&& Int32.toUInt32 31)).toInt32, _) = _
  rw [drw_v]
  rfl
end RJ
def dealA (a : AT) : AT := addP (drawA (drawA (drawA a))) (nI (drwA a % 6)) (decide (drwA (drawA a) % 2 = 1)) (nI (drwA (drawA (drawA a)) % 30))
def deals (a : AT) : Nat → AT
  | 0 => a
  | k + 1 => dealA (deals a k)
theorem deals_N (a : AT) : ∀ k, tN (deals a k) = tN a + k
  | 0 => rfl
  | k + 1 => by
    show tN (deals a k) + 1 = _
    rw [deals_N a k]
    rfl
theorem deals_S (a : AT) (i : Nat) (hi : i ≠ 13) : ∀ k, tS (deals a k) i = tS a i
  | 0 => rfl
  | k + 1 => by
    rw [← deals_S a i hi k]
    show upd (upd (upd (tS (deals a k)) 13 _) 13 _) 13 _ i = _
    rw [pk_un hi, pk_un hi, pk_un hi]
theorem deals_V {a : AT} (hV : AV a) : ∀ k, tN a + k ≤ 10 → AV (deals a k)
  | 0, _ => hV
  | k + 1, hk => by
    have h := deals_V hV k (by omega)
    refine AV_add (AV_draw (AV_draw (AV_draw h))) ?_ _ ⟨_, ?_, rfl⟩ ⟨_, ?_, rfl⟩
    · show tN (deals a k) < 10
      rw [deals_N]
      omega
    · omega
    · omega
theorem bit2 (x : Nat) : nI (x % 2) = nI (decide (x % 2 = 1)).toNat := by rw [← bool_pc]
theorem Step_7 : Step Rel C7_7 C8_7 := by
  intro a μ ν hR
  obtain ⟨t, hV, hY, hC, hM, K⟩ := hR.tw2
  have hn := hV.1
  unfold C7_7 C8_7 f_X7_deal f_X8_deal
  simp only [o1_10, n1_10, bs, i01, i10]
  by_cases h1 : 1 ≤ (a 1).toInt ∧ (a 1).toInt ≤ 10
  · obtain ⟨m, hm, e⟩ := upto (x := a 1) (n := 10) ⟨by omega, h1.2⟩ rfl
    simp only [if_pos h1]
    rw [e, hC.1, show (10 : Int32) = nI 10 from rfl, pk_sub hn]
    have hE : ∃ E, E ≤ m ∧ E ≤ 10 - tN t ∧ (E = m ∨ E = 10 - tN t) ∧ (if nI (10 - tN t) < nI m then nI (10 - tN t) else nI m) = nI E := by
      by_cases c : 10 - tN t < m
      · exact ⟨10 - tN t, by omega, by omega, Or.inr rfl, if_pos (nI_lt c (by omega))⟩
      · exact ⟨m, by omega, by omega, Or.inl rfl, if_neg (nI_nlt (by omega) (by omega))⟩
    obtain ⟨E, k1, k2, k3, ke⟩ := hE
    rw [ke, nms]
    obtain ⟨μ', c1, c2, c3⟩ := lpE (body := fun v => f_X7_deal_L30 (nI E) v.1 v.2) (fun k v => v.1 = nI k ∧ AC (deals t k) v.2 21 ∧ SameT μ v.2) (fun x => AC (deals t E) x 21 ∧ SameT μ x) E (fuel := 4000) (v := (0, μ)) (by omega) ⟨rfl, hC, SameT.rf μ⟩ (by
      intro k v hk ⟨p1, p2, p3⟩
      have hVk := deals_V hV k (by omega)
      have hNk := deals_N t k
      obtain ⟨d1, d2⟩ := draw_C p2
      obtain ⟨d3, d4⟩ := draw_C d2
      obtain ⟨d5, d6⟩ := draw_C d4
      obtain ⟨w, w1, w2, w3⟩ := join_C (AV_draw (AV_draw (AV_draw hVk))) (by show tN (deals t k) < 10; omega) d6 (nI (drwA (deals t k) % 6)) (decide (drwA (drawA (deals t k)) % 2 = 1)) (nI (drwA (drawA (drawA (deals t k))) % 30))
      have l1 : drwA (deals t k) < 2 ^ 24 := drw_lt _
      have l2 : drwA (drawA (deals t k)) < 2 ^ 24 := drw_lt _
      have l3 : drwA (drawA (drawA (deals t k))) < 2 ^ 24 := drw_lt _
      refine ⟨(nI (k + 1), w), ?_, rfl, w2, ?_⟩
      · unfold f_X7_deal_L30
        rw [p1, if_neg (nI_ge hk (by omega)), d1, bs2, show (6 : Int32) = nI 6 from rfl, rm_n (by omega) (by omega) (by omega), bs, d3, bs2, show (2 : Int32) = nI 2 from rfl, rm_n (by omega) (by omega) (by omega), bs, d5, bs2, show (30 : Int32) = nI 30 from rfl, rm_n (by omega) (by omega) (by omega), bs, bit2, w1, bs, nI_1]
      · exact p3.tr (((SameT.m (by omega)).tr (SameT.m (by omega))).tr ((SameT.m (by omega)).tr (fun i i1 _ _ _ => w3 i (by omega))))) (by
      intro v ⟨p1, p2, p3⟩
      refine ⟨v.2, ?_, p2, p3⟩
      unfold f_X7_deal_L30
      rw [p1, if_pos (nI_le (Nat.le_refl _) (by omega))])
    obtain ⟨ν', g1, g2, g3, g4⟩ := lpE (body := fun v => f_X8_deal_L17 (nI m) v.1 v.2) (fun k v => v.1 = nI k ∧ AM (deals t k) (v.2 1) ∧ SameS ν v.2) (fun x => x.1 = nI E ∧ AM (deals t E) (x.2 1) ∧ SameS ν x.2) E (fuel := 4000) (v := (0, ν)) (by omega) ⟨rfl, hM, SameS.rf ν⟩ (by
      intro k v hk ⟨p1, p2, p3⟩
      have hVk := deals_V hV k (by omega)
      have hNk := deals_N t k
      obtain ⟨d1, d2⟩ := draw_M p2
      obtain ⟨d3, d4⟩ := draw_M d2
      obtain ⟨d5, d6⟩ := draw_M d4
      obtain ⟨w, w1, w2, w3, w4⟩ := comes_M (AV_draw (AV_draw (AV_draw hVk))) (by show tN (deals t k) < 10; omega) d6 (nI (drwA (deals t k) % 6)) (decide (drwA (drawA (deals t k)) % 2 = 1)) (nI (drwA (drawA (drawA (deals t k))) % 30))
      have l1 : drwA (deals t k) < 2 ^ 24 := drw_lt _
      have l2 : drwA (drawA (deals t k)) < 2 ^ 24 := drw_lt _
      have l3 : drwA (drawA (drawA (deals t k))) < 2 ^ 24 := drw_lt _
      refine ⟨(nI (k + 1), w), ?_, rfl, w2, ?_⟩
      · unfold f_X8_deal_L17
        rw [p1, if_neg (nI_ge (by omega) (by omega)), ld0 p2, bs, if_neg (show ¬ (10 : Int32) ≤ nI (tN (deals t k)) from nI_ge (b := 10) (by omega) (by omega)), d1, bs2, show (6 : Int32) = nI 6 from rfl, rm_n (by omega) (by omega) (by omega), bs, d3, bs2, show (2 : Int32) = nI 2 from rfl, rm_n (by omega) (by omega) (by omega), bs, d5, bs2, show (30 : Int32) = nI 30 from rfl, rm_n (by omega) (by omega) (by omega), bs, bit2, w1, bs, nI_1]
      · exact p3.tr (((SameS.m (by omega)).tr (SameS.m (by omega))).tr ((SameS.m (by omega)).tr ⟨fun i i1 _ _ _ _ _ _ => w3 i i1, w4⟩))) (by
      intro v ⟨p1, p2, p3⟩
      refine ⟨(nI E, v.2), ?_, rfl, p2, p3⟩
      have hNk := deals_N t E
      unfold f_X8_deal_L17
      rw [p1]
      rcases k3 with k3 | k3
      · rw [if_pos (nI_le (by omega) (by omega))]
      · by_cases c : m ≤ E
        · rw [if_pos (nI_le c (by omega))]
        · rw [if_neg (nI_ge (by omega) (by omega)), ld0 p2, bs, if_pos (show (10 : Int32) ≤ nI (tN (deals t E)) from nI_le (a := 10) (by omega) (by omega))])
    rw [c1, bs, g1, bs]
    unfold f_X7_deal_K30_89 f_X8_deal_K17_69
    rw [g2]
    exact ⟨nI E, μ', ν'.2, rfl, rfl, K (deals t E) _ _ (deals_V hV E (by omega)) (by unfold YV; rw [deals_S t 12 (by omega)]; exact hY) c2 g3 (deals_S t 14 (by omega) E) c3 g4⟩
  · simp only [if_neg h1]
    exact ⟨-1000000001, μ, ν, rfl, rfl, hR⟩
