/-! buy -/
theorem hE_R {n c : Nat} {a w : Int32} {x y : LXp} (h : hR n x y) : hR n (hE c a w x) (hE c a w y) := by
  obtain ⟨h1, h2, h3⟩ := h
  refine ⟨by show x.1 + 1 = y.1 + 1; rw [h1], fun j hj => ?_, fun i hi => ?_⟩
  · have hj2 : j < 3 * (x.1 + 1) := hj
    show va_up (va_up (va_up x.2.1 (3 * x.1) (nI c)) (3 * x.1 + 1) a) (3 * x.1 + 2) w j = va_up (va_up (va_up y.2.1 (3 * y.1) (nI c)) (3 * y.1 + 1) a) (3 * y.1 + 2) w j
    rw [← h1, up_if, up_if, up_if, up_if, up_if, up_if]
    by_cases c1 : j = 3 * x.1 + 2
    · rw [if_pos c1, if_pos c1]
    · rw [if_neg c1, if_neg c1]
      by_cases c2 : j = 3 * x.1 + 1
      · rw [if_pos c2, if_pos c2]
      · rw [if_neg c2, if_neg c2]
        by_cases c3 : j = 3 * x.1
        · rw [if_pos c3, if_pos c3]
        · rw [if_neg c3, if_neg c3]
          exact h2 j (by omega)
  · show va_up x.2.2 c w i = va_up y.2.2 c w i
    rw [up_if, up_if, h3 i hi]
theorem toInt_nI999 {x : Nat} (h : x ≤ 999) : (nI x).toInt = (x : Int) := nI_toInt (by omega)
theorem add_small {a b : Int32} {x y : Int} (h1 : a.toInt = x) (h2 : b.toInt = y) (hl : -1000000000 ≤ x + y) (hu : x + y ≤ 1000000000) : (a + b).toInt = x + y := by
  rw [Int32.toInt_add, h1, h2]
  exact Int.bmod_eq_of_le (by omega) (by omega)
theorem sub_small {a b : Int32} {x y : Int} (h1 : a.toInt = x) (h2 : b.toInt = y) (hl : -1000000000 ≤ x - y) (hu : x - y ≤ 1000000000) : (a - b).toInt = x - y := by
  rw [Int32.toInt_sub, h1, h2]
  exact Int.bmod_eq_of_le (by omega) (by omega)
theorem add_64 {a b : Int32} {x y : Int} (h1 : a.toInt = x) (h2 : b.toInt = y) (hl : -1000000000 ≤ x + y) (hu : x + y ≤ 1000000000) : (a + b).toInt64 = a.toInt64 + b.toInt64 := by
  apply Int64.toInt_inj.mp
  rw [Int32.toInt_toInt64, add_small h1 h2 hl hu, Int64.toInt_add, Int32.toInt_toInt64, Int32.toInt_toInt64, h1, h2]
  exact (Int.bmod_eq_of_le (by omega) (by omega)).symm
theorem sub_64 {a b : Int32} {x y : Int} (h1 : a.toInt = x) (h2 : b.toInt = y) (hl : -1000000000 ≤ x - y) (hu : x - y ≤ 1000000000) : (a - b).toInt64 = a.toInt64 - b.toInt64 := by
  apply Int64.toInt_inj.mp
  rw [Int32.toInt_toInt64, sub_small h1 h2 hl hu, Int64.toInt_sub, Int32.toInt_toInt64, Int32.toInt_toInt64, h1, h2]
  exact (Int.bmod_eq_of_le (by omega) (by omega)).symm
theorem rr_buyW {t np nc nd no ns P r : Nat} {cn sn dp ew go bl sl : Nat → Nat} {sk : Nat → Nat → Nat} {K M : KS} {ap : Int64} {d p k c r2 : Nat} {y : LXp} (h : RR t t np nc nd no ns P r cn sn dp ew ew go bl sl sk K M ap) (ht : t < 512) (hp : p < np) (hk : k < no) (h111 : K 5 4 k = 111) (hc : c < nc) (hkc : K 5 0 k = nI c) (hne : K 4 2 c ≠ nI p) (hd : d < nd) (hwon : K 4 3 c = 119) (h45 : K 4 5 c = nI d) (hew : ew d = 1) (hr2 : rOK r2) (hr3 : 3 * (P + 1) ≤ r2) (hy : hRf y (hE c (K 4 2 c) (nI p) (P, K 11 0, K 4 2))) : RR (t+1) (t+1) np nc nd no (ns+1) (P+1) r2 cn sn dp ew ew go bl (va_up sl ns k) sk (lAdd (kH (k3 (k3 (k3 (k3 (k3 (k3 K 10 0 p (K 10 0 p - K 5 1 k)) 5 4 k 98) 5 3 k (nI p)) 4 4 c 0) 5 5 k (nI d)) 0 4 0 (K 0 4 0 + K 5 1 k)) r2 y) 3 k) (mH (k3 (k3 (k3 (k3 (k3 (k3 (k3 (k3 M 3 0 0 0) 16 2 p (K 10 0 p - K 5 1 k)) 13 32 k 98) 16 10 c (-1)) 16 34 k (nI p)) 16 36 k (nI ns)) 3 37 0 (nI (ns + 1))) 16 35 k (nI d)) (hE c (K 4 2 c) (nI p) (P, M 16 12, M 16 7))) (ap + (K 5 1 k).toInt64) := by
  have hx := rr_up (Nat.le_succ t) (Nat.le_refl t) h
  obtain ⟨np1, np2, np3, nc1, nc2, nc3, nc4, nd1, nd2, nd3, nd4, no1, no2, no3, no4, ns1, ns2, ns3, lc0, lc1, lc2, lc3, l0, l1, l2, pl, sd, hs_, av, ab, c0, c1, c2, c3, c4, c6, c7, g1, g2, g3, g4, g5, g6, g7, g8, g9, d1, d2, d3, d4, d5, d6, dt, d7, d8, d9, d10, d11, d12, d13, d14, z0, n1, n0, n2, n5, n6, o1, o2, o3, o4, o5, o6, o7, ow, o8, o9⟩ := hx
  obtain ⟨ccx, hccx, hccx2, hofc, hsel, hst⟩ := o7 k hk h111
  have ecc : ccx = c := (nI_eq (by omega) (by omega)).mp (hccx2.symm.trans hkc)
  rw [ecc] at hofc hsel hst
  clear hccx hccx2 ecc
  clear ccx
  obtain ⟨pe, pr, pr1, pr2, pr3⟩ := o2 k hk
  have hpi : (K 5 1 k).toInt = (pr : Int) := by rw [pr3]; exact toInt_nI999 pr2
  have hw0 : K 5 5 k = -1 := by
    rcases o6 k hk with z | z
    · exact z
    · rw [h111] at z
      exact absurd z.1 (by decide)
  have hslk : ∀ j, j < ns → sl j ≠ k := fun j hj z => (o8 j hj).2.2.2 (by rw [z]; exact h111)
  have hsl' : ∀ j, j < ns → va_up sl ns k j = sl j := fun j hj => by rw [up_if, if_neg (by omega)]
  have hsln : va_up sl ns k ns = k := by rw [up_if, if_pos rfl]
  have e82 : ∀ m, m ≠ 3 → (lAdd (kH (k3 (k3 (k3 (k3 (k3 (k3 K 10 0 p (K 10 0 p - K 5 1 k)) 5 4 k 98) 5 3 k (nI p)) 4 4 c 0) 5 5 k (nI d)) 0 4 0 (K 0 4 0 + K 5 1 k)) r2 y) 3 k) 8 2 m = K 8 2 m := fun m hm => lAdd_82 (K := kH (k3 (k3 (k3 (k3 (k3 (k3 K 10 0 p (K 10 0 p - K 5 1 k)) 5 4 k 98) 5 3 k (nI p)) 4 4 c 0) 5 5 k (nI d)) 0 4 0 (K 0 4 0 + K 5 1 k)) r2 y) (x := k) hm
  have e83 : ∀ m, m ≠ 3 → (lAdd (kH (k3 (k3 (k3 (k3 (k3 (k3 K 10 0 p (K 10 0 p - K 5 1 k)) 5 4 k 98) 5 3 k (nI p)) 4 4 c 0) 5 5 k (nI d)) 0 4 0 (K 0 4 0 + K 5 1 k)) r2 y) 3 k) 8 3 m = K 8 3 m := fun m hm => lAdd_83 (K := kH (k3 (k3 (k3 (k3 (k3 (k3 K 10 0 p (K 10 0 p - K 5 1 k)) 5 4 k 98) 5 3 k (nI p)) 4 4 c 0) 5 5 k (nI d)) 0 4 0 (K 0 4 0 + K 5 1 k)) r2 y) (x := k) hm
  have e9 : ∀ m, m ≠ 3 → (lAdd (kH (k3 (k3 (k3 (k3 (k3 (k3 K 10 0 p (K 10 0 p - K 5 1 k)) 5 4 k 98) 5 3 k (nI p)) 4 4 c 0) 5 5 k (nI d)) 0 4 0 (K 0 4 0 + K 5 1 k)) r2 y) 3 k) 9 m = K 9 m := fun m hm => lAdd_9 (K := kH (k3 (k3 (k3 (k3 (k3 (k3 K 10 0 p (K 10 0 p - K 5 1 k)) 5 4 k 98) 5 3 k (nI p)) 4 4 c 0) 5 5 k (nI d)) 0 4 0 (K 0 4 0 + K 5 1 k)) r2 y) (x := k) hm
  have f4 : ∀ i, (lAdd (kH (k3 (k3 (k3 (k3 (k3 (k3 K 10 0 p (K 10 0 p - K 5 1 k)) 5 4 k 98) 5 3 k (nI p)) 4 4 c 0) 5 5 k (nI d)) 0 4 0 (K 0 4 0 + K 5 1 k)) r2 y) 3 k) 5 4 i = if i = k then 98 else K 5 4 i := fun _ => rfl
  have f3 : ∀ i, (lAdd (kH (k3 (k3 (k3 (k3 (k3 (k3 K 10 0 p (K 10 0 p - K 5 1 k)) 5 4 k 98) 5 3 k (nI p)) 4 4 c 0) 5 5 k (nI d)) 0 4 0 (K 0 4 0 + K 5 1 k)) r2 y) 3 k) 5 3 i = if i = k then nI p else K 5 3 i := fun _ => rfl
  have f44 : ∀ i, (lAdd (kH (k3 (k3 (k3 (k3 (k3 (k3 K 10 0 p (K 10 0 p - K 5 1 k)) 5 4 k 98) 5 3 k (nI p)) 4 4 c 0) 5 5 k (nI d)) 0 4 0 (K 0 4 0 + K 5 1 k)) r2 y) 3 k) 4 4 i = if i = c then 0 else K 4 4 i := fun _ => rfl
  have fow : ∀ i, (lAdd (kH (k3 (k3 (k3 (k3 (k3 (k3 K 10 0 p (K 10 0 p - K 5 1 k)) 5 4 k 98) 5 3 k (nI p)) 4 4 c 0) 5 5 k (nI d)) 0 4 0 (K 0 4 0 + K 5 1 k)) r2 y) 3 k) 4 2 i = if i = c then nI p else K 4 2 i := fun i => by
    show y.2.2 i = _
    rw [hy.2.2]
    rfl
  have ecn : cntE ((lAdd (kH (k3 (k3 (k3 (k3 (k3 (k3 K 10 0 p (K 10 0 p - K 5 1 k)) 5 4 k 98) 5 3 k (nI p)) 4 4 c 0) 5 5 k (nI d)) 0 4 0 (K 0 4 0 + K 5 1 k)) r2 y) 3 k) 5 4) 98 no = cntE (K 5 4) 98 no + 1 := by
    have := cntE_up (f := K 5 4) 98 98 hk
    rw [h111, if_neg (by decide), if_pos rfl] at this
    exact this
  have hnoc : ∀ d2, d2 < nd → K 4 5 c = nI d2 → d2 = d := fun d2 hd2 z => by
    exact (nI_eq (by omega) (by omega)).mp (z.symm.trans h45)
  unfold RR
  refine ⟨np1, np2, np3, ?q_nc1, nc2, nc3, nc4, ?q_nd1, nd2, nd3, nd4, ?q_no1, no2, no3, no4, ?q_ns1, ?q_ns2, ?q_ns3, ?q_lc0, ?q_lc1, ?q_lc2, ?q_lc3, ?q_l0, ?q_l1, ?q_l2, ?q_pl, ?q_sd, hs_, ?q_av, ?q_ab, c0, c1, ?q_c2, c3, ?q_c4, c6, c7, ?q_g1, ?q_g2, ?q_g3, ?q_g4, ?q_g5, ?q_g6, ?q_g7, ?q_g8, ?q_g9, d1, d2, d3, d4, d5, d6, dt, ?q_d7, ?q_d8, d9, d10, d11, d12, ?q_d13, d14, z0, n1, n0, n2, n5, n6, o1, o2, ?q_o3, o4, ?q_o5, ?q_o6, ?q_o7, ?q_ow, ?q_o8, ?q_o9⟩
  case q_ns1 => exact lAdd_s2 (K := kH (k3 (k3 (k3 (k3 (k3 (k3 K 10 0 p (K 10 0 p - K 5 1 k)) 5 4 k 98) 5 3 k (nI p)) 4 4 c 0) 5 5 k (nI d)) 0 4 0 (K 0 4 0 + K 5 1 k)) r2 y) (x := k) ns1
  case q_ns2 => exact rfl
  case q_ns3 =>
    refine pigeon (ns + 1) no (va_up sl ns k) (fun i hi => ?_) (fun i j hi hj q => ?_)
    · rcases (by omega : i < ns ∨ i = ns) with z | z
      · rw [hsl' i z]
        exact (o8 i z).2.1
      · rw [z, hsln]
        exact hk
    · rcases (by omega : i < ns ∨ i = ns) with z | z
      · rcases (by omega : j < ns ∨ j = ns) with z2 | z2
        · rw [hsl' i z, hsl' j z2] at q
          have w1 := (o8 i z).2.2.1
          have w2 := (o8 j z2).2.2.1
          rw [q] at w1
          exact (nI_eq (by omega) (by omega)).mp (w1.symm.trans w2)
        · rw [hsl' i z, z2, hsln] at q
          exact absurd q (hslk i z)
      · rcases (by omega : j < ns ∨ j = ns) with z2 | z2
        · rw [hsl' j z2, z, hsln] at q
          exact absurd q.symm (hslk j z2)
        · rw [z, z2]
  case q_lc3 =>
    have := lcp_add lc3 (by omega)
    rw [← ns1] at this
    exact (show (lAdd (kH (k3 (k3 (k3 (k3 (k3 (k3 K 10 0 p (K 10 0 p - K 5 1 k)) 5 4 k 98) 5 3 k (nI p)) 4 4 c 0) 5 5 k (nI d)) 0 4 0 (K 0 4 0 + K 5 1 k)) r2 y) 3 k) 8 3 3 = lCap (K 8 2 3) (K 8 3 3) from (lAdd_s3 (K := kH (k3 (k3 (k3 (k3 (k3 (k3 K 10 0 p (K 10 0 p - K 5 1 k)) 5 4 k 98) 5 3 k (nI p)) 4 4 c 0) 5 5 k (nI d)) 0 4 0 (K 0 4 0 + K 5 1 k)) r2 y) (n := 3) (x := k))) ▸ this
  case q_nc1 => rw [e82 _ (by omega)]; exact nc1
  case q_nd1 => rw [e82 _ (by omega)]; exact nd1
  case q_no1 => rw [e82 _ (by omega)]; exact no1
  case q_lc0 => rw [e83 _ (by omega)]; exact lc0
  case q_lc1 => rw [e83 _ (by omega)]; exact lc1
  case q_lc2 => rw [e83 _ (by omega)]; exact lc2
  case q_l0 => rw [e9 _ (by omega)]; exact l0
  case q_l1 => rw [e9 _ (by omega)]; exact l1
  case q_l2 => rw [e9 _ (by omega)]; exact l2
  case q_pl =>
    intro i hi
    show va_up (K 10 0) p (K 10 0 p - K 5 1 k) i = va_up (M 16 2) p (K 10 0 p - K 5 1 k) i
    rw [up_if, up_if, pl i hi]
  case q_sd =>
    show K 0 3 0 + (K 0 4 0 + K 5 1 k) + sumI (va_up (K 10 0) p (K 10 0 p - K 5 1 k)) np = K 0 2 0
    rw [sumI_up _ hp, ← sd]
    grind
  case q_av =>
    show (K 0 4 0 + K 5 1 k).toInt64 = _
    rw [add_64 rfl hpi (by have := rx_ab h; omega) (by have := rx_ab h; omega), av]
  case q_ab =>
    show _ ≤ (K 0 4 0 + K 5 1 k).toInt ∧ (K 0 4 0 + K 5 1 k).toInt ≤ _
    have hab := rx_ab h
    rw [add_small rfl hpi (by omega) (by omega)]
    omega
  case q_c2 =>
    intro i hi
    show _ = va_up (M 16 7) c (nI p) i ∧ _
    rw [fow, up_if]
    by_cases z : i = c
    · rw [if_pos z, if_pos z]
      exact ⟨rfl, p, hp, rfl⟩
    · rw [if_neg z, if_neg z]
      exact c2 i hi
  case q_c4 =>
    intro i hi
    show (va_up (M 16 10) c (-1) i = -1 ∧ _) ∨ (∃ k2, k2 < no ∧ va_up (M 16 10) c (-1) i = nI k2 ∧ _)
    rw [f44, up_if]
    by_cases z : i = c
    · rw [if_pos z, if_pos z]
      exact Or.inl ⟨rfl, rfl⟩
    · rw [if_neg z, if_neg z]
      rcases c4 i hi with w | ⟨k2, w1, w2, w3, w4, w5⟩
      · exact Or.inl w
      · refine Or.inr ⟨k2, w1, w2, w3, w4, ?_⟩
        rw [f4, if_neg (fun q2 => z ?_)]
        · exact w5
        · rw [q2, hkc] at w4
          exact ((nI_eq (by omega) (by omega)).mp w4).symm
  case q_g1 =>
    show nI y.1 = _
    rw [hy.1]
    rfl
  case q_g2 => exact rfl
  case q_g3 => exact rfl
  case q_g4 => exact hr2
  case q_g5 => exact hr3
  case q_g6 =>
    intro j hj
    show y.2.1 j = _
    rw [hy.2.1 j hj]
    exact (hE_R (n := nc) (x := (P, K 11 0, K 4 2)) (y := (P, M 16 12, M 16 7)) (c := c) (a := K 4 2 c) (w := nI p) ⟨rfl, g6, fun i hi => (c2 i hi).1⟩).2.1 j hj
  case q_g7 =>
    intro i hi
    have hL0 : hL nc y := hL_f hy (hE_L (n := nc) (by omega) (by omega) (fun i hi _ => g7 i hi))
    have := hL0 i hi
    rw [hy.1] at this
    exact this
  case q_g8 =>
    rw [ecn]
    omega
  case q_g9 =>
    rw [ecn]
    rcases g9 with z | z
    · exact Or.inl z
    · exact Or.inr (by omega)
  case q_d7 =>
    intro s hs2
    rw [e82 _ (by omega), e83 _ (by omega)]
    exact d7 s hs2
  case q_d8 =>
    intro s hs2
    rw [e9 _ (by omega)]
    exact d8 s hs2
  case q_d13 =>
    intro d2_ hd2 z s hs2 i hi
    have hlt := (d8 s (by omega) i hi).2.2
    have h45 := d12 d2_ hd2 (by omega) s hs2 i hi
    rw [fow, if_neg (fun w => ?_)]
    · exact d13 d2_ hd2 z s hs2 i hi
    · rw [w] at h45
      rcases (c3 c hc).2 with v | ⟨_, d3_, v1, v2, v | v⟩
      · exact nI_neg1 (a := d2_) (by omega) (h45.symm.trans v.2)
      · exact hst v.2
      · have : d3_ = d2_ := (nI_eq (by omega) (by omega)).mp (v2.symm.trans h45)
        rw [this, z] at v
        exact absurd v.1 (by decide)
  case q_o3 =>
    intro i hi
    show _ = va_up (M 13 32) k 98 i ∧ _
    rw [f4, up_if]
    by_cases z : i = k
    · rw [if_pos z, if_pos z]
      exact ⟨rfl, Or.inr (Or.inl rfl)⟩
    · rw [if_neg z, if_neg z]
      exact o3 i hi
  case q_o5 =>
    intro i hi
    show _ → _ = va_up (M 16 34) k (nI p) i ∧ _ ≠ K 5 2 i ∧ _ ∧ (va_up (K 5 5) k (nI d)) i = (va_up (M 16 35) k (nI d)) i ∧ _
    rw [f4, f3, up_if]
    by_cases z : i = k
    · rw [if_pos z, if_pos z, if_pos z]
      refine fun _ => ⟨rfl, ?_, ⟨p, hp, rfl⟩, ?_, ns, by omega, by rw [hsln, z]⟩
      · rw [z, hsel]
        exact fun w => hne w.symm
      · rw [up_if, up_if, if_pos z, if_pos z]
    · rw [if_neg z, if_neg z, if_neg z, up_if, up_if, if_neg z, if_neg z]
      intro w
      obtain ⟨y1, y2, y3, y4, j, y5, y6⟩ := o5 i hi w
      exact ⟨y1, y2, y3, y4, j, by omega, by rw [hsl' j y5]; exact y6⟩
  case q_o6 =>
    intro i hi
    show (va_up (K 5 5) k (nI d)) i = -1 ∨ (_ ∧ ∃ d2, d2 < nd ∧ (va_up (K 5 5) k (nI d)) i = nI d2 ∧ _)
    rw [f4]
    by_cases z : i = k
    · rw [up_if, if_pos z, if_pos z]
      exact Or.inr ⟨rfl, d, hd, rfl, hew, c, hc, by rw [z]; exact hkc, h45⟩
    · rw [up_if, if_neg z, if_neg z]
      exact o6 i hi
  case q_o7 =>
    intro i hi
    show _ → ∃ c2_, c2_ < nc ∧ _ ∧ va_up (M 16 10) c (-1) c2_ = nI i ∧ _
    rw [f4]
    by_cases z : i = k
    · rw [if_pos z]
      intro w
      exact absurd w (by decide)
    · rw [if_neg z]
      intro w
      obtain ⟨c2_, y1, y2, y3, y4, y5⟩ := o7 i hi w
      have hcn : c2_ ≠ c := fun v => by
        rw [v, hofc] at y3
        exact z ((nI_eq (by omega) (by omega)).mp y3).symm
      refine ⟨c2_, y1, y2, ?_, ?_, y5⟩
      · rw [up_if, if_neg hcn]
        exact y3
      · rw [fow, if_neg hcn]
        exact y4
  case q_ow =>
    intro i hi
    show _ → (va_up (M 16 35) k (nI d)) i = -1
    rw [f4]
    by_cases z : i = k
    · rw [if_pos z]
      intro w
      exact absurd w (by decide)
    · rw [if_neg z, up_if, if_neg z]
      exact ow i hi
  case q_o8 =>
    intro j hj
    show lAdd (kH (k3 (k3 (k3 (k3 (k3 (k3 K 10 0 p (K 10 0 p - K 5 1 k)) 5 4 k 98) 5 3 k (nI p)) 4 4 c 0) 5 5 k (nI d)) 0 4 0 (K 0 4 0 + K 5 1 k)) r2 y) 3 k 9 3 j = _ ∧ _ ∧ va_up (M 16 36) k (nI ns) (va_up sl ns k j) = nI j ∧ _
    rcases (by omega : j < ns ∨ j = ns) with z | z
    · rw [lAdd_s9 (K := kH (k3 (k3 (k3 (k3 (k3 (k3 K 10 0 p (K 10 0 p - K 5 1 k)) 5 4 k 98) 5 3 k (nI p)) 4 4 c 0) 5 5 k (nI d)) 0 4 0 (K 0 4 0 + K 5 1 k)) r2 y) ns1 (by omega), if_neg (by omega), hsl' j z, f4, if_neg (hslk j z), va_up_n _ _ (hslk j z)]
      exact o8 j z
    · rw [z, lAdd_s9 (K := kH (k3 (k3 (k3 (k3 (k3 (k3 K 10 0 p (K 10 0 p - K 5 1 k)) 5 4 k 98) 5 3 k (nI p)) 4 4 c 0) 5 5 k (nI d)) 0 4 0 (K 0 4 0 + K 5 1 k)) r2 y) ns1 (by omega), if_pos rfl, hsln, f4, if_pos rfl, va_up_s]
      exact ⟨rfl, hk, rfl, by decide⟩
  case q_o9 =>
    intro d2_ hd2 z
    have hco : ∀ j, j < ns → (va_up (K 5 5) k (nI d)) (sl j) = K 5 5 (sl j) ∧ (lAdd (kH (k3 (k3 (k3 (k3 (k3 (k3 K 10 0 p (K 10 0 p - K 5 1 k)) 5 4 k 98) 5 3 k (nI p)) 4 4 c 0) 5 5 k (nI d)) 0 4 0 (K 0 4 0 + K 5 1 k)) r2 y) 3 k) 5 3 (sl j) = K 5 3 (sl j) := fun j hj => by
      refine ⟨?_, ?_⟩
      · rw [up_if, if_neg (hslk j hj)]
      · rw [f3, if_neg (hslk j hj)]
    show ((va_up (K 5 5) k (nI d)) (va_up sl ns k ns) = nI d2_ → (lAdd (kH (k3 (k3 (k3 (k3 (k3 (k3 K 10 0 p (K 10 0 p - K 5 1 k)) 5 4 k 98) 5 3 k (nI p)) 4 4 c 0) 5 5 k (nI d)) 0 4 0 (K 0 4 0 + K 5 1 k)) r2 y) 3 k) 4 2 (K 5 0 (va_up sl ns k ns)).toNatClampNeg = (lAdd (kH (k3 (k3 (k3 (k3 (k3 (k3 K 10 0 p (K 10 0 p - K 5 1 k)) 5 4 k 98) 5 3 k (nI p)) 4 4 c 0) 5 5 k (nI d)) 0 4 0 (K 0 4 0 + K 5 1 k)) r2 y) 3 k) 5 3 (va_up sl ns k ns) ∧ ChOk (va_up (K 5 5) k (nI d)) (K 5 0) ((lAdd (kH (k3 (k3 (k3 (k3 (k3 (k3 K 10 0 p (K 10 0 p - K 5 1 k)) 5 4 k 98) 5 3 k (nI p)) 4 4 c 0) 5 5 k (nI d)) 0 4 0 (K 0 4 0 + K 5 1 k)) r2 y) 3 k) 5 3) (K 5 2) (va_up sl ns k) d2_ (ChB cn sk (K 6 3) (K 7 0) d2_) ns (va_up ((lAdd (kH (k3 (k3 (k3 (k3 (k3 (k3 K 10 0 p (K 10 0 p - K 5 1 k)) 5 4 k 98) 5 3 k (nI p)) 4 4 c 0) 5 5 k (nI d)) 0 4 0 (K 0 4 0 + K 5 1 k)) r2 y) 3 k) 4 2) (K 5 0 (va_up sl ns k ns)).toNatClampNeg (K 5 2 (va_up sl ns k ns)))) ∧ (¬ (va_up (K 5 5) k (nI d)) (va_up sl ns k ns) = nI d2_ → ChOk (va_up (K 5 5) k (nI d)) (K 5 0) ((lAdd (kH (k3 (k3 (k3 (k3 (k3 (k3 K 10 0 p (K 10 0 p - K 5 1 k)) 5 4 k 98) 5 3 k (nI p)) 4 4 c 0) 5 5 k (nI d)) 0 4 0 (K 0 4 0 + K 5 1 k)) r2 y) 3 k) 5 3) (K 5 2) (va_up sl ns k) d2_ (ChB cn sk (K 6 3) (K 7 0) d2_) ns ((lAdd (kH (k3 (k3 (k3 (k3 (k3 (k3 K 10 0 p (K 10 0 p - K 5 1 k)) 5 4 k 98) 5 3 k (nI p)) 4 4 c 0) 5 5 k (nI d)) 0 4 0 (K 0 4 0 + K 5 1 k)) r2 y) 3 k) 4 2))
    rw [hsln, hkc, nI_clamp (by omega)]
    refine ⟨fun w => ⟨?_, ?_⟩, fun w => ?_⟩
    · rw [fow, f3, if_pos rfl, if_pos rfl]
    · refine ch_gen (D := fun _ => True) (fun o o2 ho hB s hs2 i hi => ?_) ns (fun j hj => ?_) (K 4 2) _ (fun i _ => ?_) (o9 d2_ hd2 z)
      · rw [ho _ trivial]
        exact hB s hs2 i hi
      · rw [hsl' j hj, (hco j hj).1, (hco j hj).2]
        exact ⟨Iff.rfl, fun _ => ⟨rfl, rfl, rfl, trivial⟩⟩
      · rw [up_if, fow, hsel]
        by_cases v : i = c
        · rw [if_pos v, v]
        · rw [if_neg v, if_neg v]
    · have hnc2 : K 4 5 c ≠ nI d2_ := fun v => by
        have v2 := hnoc d2_ hd2 v
        exact w (by rw [up_if, if_pos rfl, v2])
      refine ch_gen (D := fun i => i ≠ c) (fun o o2 ho hB s hs2 i hi => ?_) ns (fun j hj => ?_) (K 4 2) _ (fun i hi => ?_) (o9 d2_ hd2 z)
      · rw [ho _ (fun v => hnc2 (by rw [← v]; exact d12 d2_ hd2 (by omega) s hs2 i hi))]
        exact hB s hs2 i hi
      · rw [hsl' j hj, (hco j hj).1, (hco j hj).2]
        refine ⟨Iff.rfl, fun v => ⟨rfl, rfl, rfl, fun v2 => ?_⟩⟩
        rcases o6 (sl j) (o8 j hj).2.1 with u | ⟨_, d3_, u1, u2, u3, c3_, u4, u5, u6⟩
        · rw [u] at v
          exact nI_neg1 (a := d2_) (by omega) v.symm
        · rw [u5, nI_clamp (by omega)] at v2
          rw [v2, ← u2, v] at u6
          exact hnc2 u6
      · rw [fow, if_neg hi]
theorem rr_buyF {t np nc nd no ns P r : Nat} {cn sn dp ew go bl sl : Nat → Nat} {sk : Nat → Nat → Nat} {K M : KS} {ap : Int64} {q p k c r2 : Nat} {y : LXp} (h : RR t t np nc nd no ns P r cn sn dp ew ew go bl sl sk K M ap) (ht : t < 512) (hp : p < np) (hk : k < no) (h111 : K 5 4 k = 111) (hc : c < nc) (hkc : K 5 0 k = nI c) (hne : K 4 2 c ≠ nI p) (hq : q < np) (hqs : K 5 2 k = nI q) (hfree : K 4 3 c = 45) (hr2 : rOK r2) (hr3 : 3 * (P + 1) ≤ r2) (hy : hRf y (hE c (K 4 2 c) (nI p) (P, K 11 0, K 4 2))) : RR (t+1) (t+1) np nc nd no (ns+1) (P+1) r2 cn sn dp ew ew go bl (va_up sl ns k) sk (lAdd (kH (k3 (k3 (k3 (k3 (k3 (k3 K 10 0 p (K 10 0 p - K 5 1 k)) 5 4 k 98) 5 3 k (nI p)) 4 4 c 0) 0 3 0 (K 0 3 0 + (K 5 1 k + 9) / 10)) 10 0 q (va_up (K 10 0) p (K 10 0 p - K 5 1 k) q + (K 5 1 k - (K 5 1 k + 9) / 10))) r2 y) 3 k) (mH (k3 (k3 (k3 (k3 (k3 (k3 (k3 (k3 (k3 M 3 0 0 0) 16 2 p (K 10 0 p - K 5 1 k)) 13 32 k 98) 16 10 c (-1)) 16 34 k (nI p)) 16 36 k (nI ns)) 3 37 0 (nI (ns + 1))) 3 3 0 (M 3 3 0 + (K 5 1 k + 9) / 10)) 16 2 q (va_up (M 16 2) p (K 10 0 p - K 5 1 k) q + (K 5 1 k - (K 5 1 k + 9) / 10))) (hE c (K 4 2 c) (nI p) (P, M 16 12, M 16 7))) ap := by
  have hx := rr_up (Nat.le_succ t) (Nat.le_refl t) h
  obtain ⟨np1, np2, np3, nc1, nc2, nc3, nc4, nd1, nd2, nd3, nd4, no1, no2, no3, no4, ns1, ns2, ns3, lc0, lc1, lc2, lc3, l0, l1, l2, pl, sd, hs_, av, ab, c0, c1, c2, c3, c4, c6, c7, g1, g2, g3, g4, g5, g6, g7, g8, g9, d1, d2, d3, d4, d5, d6, dt, d7, d8, d9, d10, d11, d12, d13, d14, z0, n1, n0, n2, n5, n6, o1, o2, o3, o4, o5, o6, o7, ow, o8, o9⟩ := hx
  obtain ⟨ccx, hccx, hccx2, hofc, hsel, hst⟩ := o7 k hk h111
  have ecc : ccx = c := (nI_eq (by omega) (by omega)).mp (hccx2.symm.trans hkc)
  rw [ecc] at hofc hsel hst
  clear hccx hccx2 ecc
  clear ccx
  obtain ⟨pe, pr, pr1, pr2, pr3⟩ := o2 k hk
  have hpi : (K 5 1 k).toInt = (pr : Int) := by rw [pr3]; exact toInt_nI999 pr2
  have hw0 : K 5 5 k = -1 := by
    rcases o6 k hk with z | z
    · exact z
    · rw [h111] at z
      exact absurd z.1 (by decide)
  have hslk : ∀ j, j < ns → sl j ≠ k := fun j hj z => (o8 j hj).2.2.2 (by rw [z]; exact h111)
  have hsl' : ∀ j, j < ns → va_up sl ns k j = sl j := fun j hj => by rw [up_if, if_neg (by omega)]
  have hsln : va_up sl ns k ns = k := by rw [up_if, if_pos rfl]
  have e82 : ∀ m, m ≠ 3 → (lAdd (kH (k3 (k3 (k3 (k3 (k3 (k3 K 10 0 p (K 10 0 p - K 5 1 k)) 5 4 k 98) 5 3 k (nI p)) 4 4 c 0) 0 3 0 (K 0 3 0 + (K 5 1 k + 9) / 10)) 10 0 q (va_up (K 10 0) p (K 10 0 p - K 5 1 k) q + (K 5 1 k - (K 5 1 k + 9) / 10))) r2 y) 3 k) 8 2 m = K 8 2 m := fun m hm => lAdd_82 (K := kH (k3 (k3 (k3 (k3 (k3 (k3 K 10 0 p (K 10 0 p - K 5 1 k)) 5 4 k 98) 5 3 k (nI p)) 4 4 c 0) 0 3 0 (K 0 3 0 + (K 5 1 k + 9) / 10)) 10 0 q (va_up (K 10 0) p (K 10 0 p - K 5 1 k) q + (K 5 1 k - (K 5 1 k + 9) / 10))) r2 y) (x := k) hm
  have e83 : ∀ m, m ≠ 3 → (lAdd (kH (k3 (k3 (k3 (k3 (k3 (k3 K 10 0 p (K 10 0 p - K 5 1 k)) 5 4 k 98) 5 3 k (nI p)) 4 4 c 0) 0 3 0 (K 0 3 0 + (K 5 1 k + 9) / 10)) 10 0 q (va_up (K 10 0) p (K 10 0 p - K 5 1 k) q + (K 5 1 k - (K 5 1 k + 9) / 10))) r2 y) 3 k) 8 3 m = K 8 3 m := fun m hm => lAdd_83 (K := kH (k3 (k3 (k3 (k3 (k3 (k3 K 10 0 p (K 10 0 p - K 5 1 k)) 5 4 k 98) 5 3 k (nI p)) 4 4 c 0) 0 3 0 (K 0 3 0 + (K 5 1 k + 9) / 10)) 10 0 q (va_up (K 10 0) p (K 10 0 p - K 5 1 k) q + (K 5 1 k - (K 5 1 k + 9) / 10))) r2 y) (x := k) hm
  have e9 : ∀ m, m ≠ 3 → (lAdd (kH (k3 (k3 (k3 (k3 (k3 (k3 K 10 0 p (K 10 0 p - K 5 1 k)) 5 4 k 98) 5 3 k (nI p)) 4 4 c 0) 0 3 0 (K 0 3 0 + (K 5 1 k + 9) / 10)) 10 0 q (va_up (K 10 0) p (K 10 0 p - K 5 1 k) q + (K 5 1 k - (K 5 1 k + 9) / 10))) r2 y) 3 k) 9 m = K 9 m := fun m hm => lAdd_9 (K := kH (k3 (k3 (k3 (k3 (k3 (k3 K 10 0 p (K 10 0 p - K 5 1 k)) 5 4 k 98) 5 3 k (nI p)) 4 4 c 0) 0 3 0 (K 0 3 0 + (K 5 1 k + 9) / 10)) 10 0 q (va_up (K 10 0) p (K 10 0 p - K 5 1 k) q + (K 5 1 k - (K 5 1 k + 9) / 10))) r2 y) (x := k) hm
  have f4 : ∀ i, (lAdd (kH (k3 (k3 (k3 (k3 (k3 (k3 K 10 0 p (K 10 0 p - K 5 1 k)) 5 4 k 98) 5 3 k (nI p)) 4 4 c 0) 0 3 0 (K 0 3 0 + (K 5 1 k + 9) / 10)) 10 0 q (va_up (K 10 0) p (K 10 0 p - K 5 1 k) q + (K 5 1 k - (K 5 1 k + 9) / 10))) r2 y) 3 k) 5 4 i = if i = k then 98 else K 5 4 i := fun _ => rfl
  have f3 : ∀ i, (lAdd (kH (k3 (k3 (k3 (k3 (k3 (k3 K 10 0 p (K 10 0 p - K 5 1 k)) 5 4 k 98) 5 3 k (nI p)) 4 4 c 0) 0 3 0 (K 0 3 0 + (K 5 1 k + 9) / 10)) 10 0 q (va_up (K 10 0) p (K 10 0 p - K 5 1 k) q + (K 5 1 k - (K 5 1 k + 9) / 10))) r2 y) 3 k) 5 3 i = if i = k then nI p else K 5 3 i := fun _ => rfl
  have f44 : ∀ i, (lAdd (kH (k3 (k3 (k3 (k3 (k3 (k3 K 10 0 p (K 10 0 p - K 5 1 k)) 5 4 k 98) 5 3 k (nI p)) 4 4 c 0) 0 3 0 (K 0 3 0 + (K 5 1 k + 9) / 10)) 10 0 q (va_up (K 10 0) p (K 10 0 p - K 5 1 k) q + (K 5 1 k - (K 5 1 k + 9) / 10))) r2 y) 3 k) 4 4 i = if i = c then 0 else K 4 4 i := fun _ => rfl
  have fow : ∀ i, (lAdd (kH (k3 (k3 (k3 (k3 (k3 (k3 K 10 0 p (K 10 0 p - K 5 1 k)) 5 4 k 98) 5 3 k (nI p)) 4 4 c 0) 0 3 0 (K 0 3 0 + (K 5 1 k + 9) / 10)) 10 0 q (va_up (K 10 0) p (K 10 0 p - K 5 1 k) q + (K 5 1 k - (K 5 1 k + 9) / 10))) r2 y) 3 k) 4 2 i = if i = c then nI p else K 4 2 i := fun i => by
    show y.2.2 i = _
    rw [hy.2.2]
    rfl
  have ecn : cntE ((lAdd (kH (k3 (k3 (k3 (k3 (k3 (k3 K 10 0 p (K 10 0 p - K 5 1 k)) 5 4 k 98) 5 3 k (nI p)) 4 4 c 0) 0 3 0 (K 0 3 0 + (K 5 1 k + 9) / 10)) 10 0 q (va_up (K 10 0) p (K 10 0 p - K 5 1 k) q + (K 5 1 k - (K 5 1 k + 9) / 10))) r2 y) 3 k) 5 4) 98 no = cntE (K 5 4) 98 no + 1 := by
    have := cntE_up (f := K 5 4) 98 98 hk
    rw [h111, if_neg (by decide), if_pos rfl] at this
    exact this
  have hnoc : ∀ d2, d2 < nd → K 4 5 c = nI d2 → False := fun d2 hd2 z => by
    rcases (c3 c hc).2 with w | ⟨_, d3_, _, _, w | w⟩
    · rw [w.2] at z
      exact nI_neg1 (a := d2) (by omega) z.symm
    · rw [hfree] at w
      exact absurd w.2 (by decide)
    · rw [hfree] at w
      exact absurd w.2 (by decide)
  unfold RR
  refine ⟨np1, np2, np3, ?q_nc1, nc2, nc3, nc4, ?q_nd1, nd2, nd3, nd4, ?q_no1, no2, no3, no4, ?q_ns1, ?q_ns2, ?q_ns3, ?q_lc0, ?q_lc1, ?q_lc2, ?q_lc3, ?q_l0, ?q_l1, ?q_l2, ?q_pl, ?q_sd, ?q_hs_, av, ab, c0, c1, ?q_c2, c3, ?q_c4, c6, c7, ?q_g1, ?q_g2, ?q_g3, ?q_g4, ?q_g5, ?q_g6, ?q_g7, ?q_g8, ?q_g9, d1, d2, d3, d4, d5, d6, dt, ?q_d7, ?q_d8, d9, d10, d11, d12, ?q_d13, d14, z0, n1, n0, n2, n5, n6, o1, o2, ?q_o3, o4, ?q_o5, ?q_o6, ?q_o7, ?q_ow, ?q_o8, ?q_o9⟩
  case q_ns1 => exact lAdd_s2 (K := kH (k3 (k3 (k3 (k3 (k3 (k3 K 10 0 p (K 10 0 p - K 5 1 k)) 5 4 k 98) 5 3 k (nI p)) 4 4 c 0) 0 3 0 (K 0 3 0 + (K 5 1 k + 9) / 10)) 10 0 q (va_up (K 10 0) p (K 10 0 p - K 5 1 k) q + (K 5 1 k - (K 5 1 k + 9) / 10))) r2 y) (x := k) ns1
  case q_ns2 => exact rfl
  case q_ns3 =>
    refine pigeon (ns + 1) no (va_up sl ns k) (fun i hi => ?_) (fun i j hi hj q => ?_)
    · rcases (by omega : i < ns ∨ i = ns) with z | z
      · rw [hsl' i z]
        exact (o8 i z).2.1
      · rw [z, hsln]
        exact hk
    · rcases (by omega : i < ns ∨ i = ns) with z | z
      · rcases (by omega : j < ns ∨ j = ns) with z2 | z2
        · rw [hsl' i z, hsl' j z2] at q
          have w1 := (o8 i z).2.2.1
          have w2 := (o8 j z2).2.2.1
          rw [q] at w1
          exact (nI_eq (by omega) (by omega)).mp (w1.symm.trans w2)
        · rw [hsl' i z, z2, hsln] at q
          exact absurd q (hslk i z)
      · rcases (by omega : j < ns ∨ j = ns) with z2 | z2
        · rw [hsl' j z2, z, hsln] at q
          exact absurd q.symm (hslk j z2)
        · rw [z, z2]
  case q_lc3 =>
    have := lcp_add lc3 (by omega)
    rw [← ns1] at this
    exact (show (lAdd (kH (k3 (k3 (k3 (k3 (k3 (k3 K 10 0 p (K 10 0 p - K 5 1 k)) 5 4 k 98) 5 3 k (nI p)) 4 4 c 0) 0 3 0 (K 0 3 0 + (K 5 1 k + 9) / 10)) 10 0 q (va_up (K 10 0) p (K 10 0 p - K 5 1 k) q + (K 5 1 k - (K 5 1 k + 9) / 10))) r2 y) 3 k) 8 3 3 = lCap (K 8 2 3) (K 8 3 3) from (lAdd_s3 (K := kH (k3 (k3 (k3 (k3 (k3 (k3 K 10 0 p (K 10 0 p - K 5 1 k)) 5 4 k 98) 5 3 k (nI p)) 4 4 c 0) 0 3 0 (K 0 3 0 + (K 5 1 k + 9) / 10)) 10 0 q (va_up (K 10 0) p (K 10 0 p - K 5 1 k) q + (K 5 1 k - (K 5 1 k + 9) / 10))) r2 y) (n := 3) (x := k))) ▸ this
  case q_nc1 => rw [e82 _ (by omega)]; exact nc1
  case q_nd1 => rw [e82 _ (by omega)]; exact nd1
  case q_no1 => rw [e82 _ (by omega)]; exact no1
  case q_lc0 => rw [e83 _ (by omega)]; exact lc0
  case q_lc1 => rw [e83 _ (by omega)]; exact lc1
  case q_lc2 => rw [e83 _ (by omega)]; exact lc2
  case q_l0 => rw [e9 _ (by omega)]; exact l0
  case q_l1 => rw [e9 _ (by omega)]; exact l1
  case q_l2 => rw [e9 _ (by omega)]; exact l2
  case q_pl =>
    intro i hi
    show va_up (va_up (K 10 0) p (K 10 0 p - K 5 1 k)) q (va_up (K 10 0) p (K 10 0 p - K 5 1 k) q + (K 5 1 k - (K 5 1 k + 9) / 10)) i = va_up (va_up (M 16 2) p (K 10 0 p - K 5 1 k)) q (va_up (M 16 2) p (K 10 0 p - K 5 1 k) q + (K 5 1 k - (K 5 1 k + 9) / 10)) i
    rw [up_if, up_if _ q, up_if _ p, up_if _ p, up_if _ p, up_if _ p, pl i hi, pl q hq]
  case q_sd =>
    show K 0 3 0 + (K 5 1 k + 9) / 10 + K 0 4 0 + sumI (va_up (va_up (K 10 0) p (K 10 0 p - K 5 1 k)) q (va_up (K 10 0) p (K 10 0 p - K 5 1 k) q + (K 5 1 k - (K 5 1 k + 9) / 10))) np = K 0 2 0
    rw [sumI_up _ hq, sumI_up _ hp, ← sd]
    generalize (K 5 1 k + 9) / 10 = fee
    generalize va_up (K 10 0) p (K 10 0 p - K 5 1 k) q = w
    grind
  case q_hs_ =>
    show K 0 3 0 + (K 5 1 k + 9) / 10 = M 3 3 0 + (K 5 1 k + 9) / 10
    rw [hs_]
  case q_c2 =>
    intro i hi
    show _ = va_up (M 16 7) c (nI p) i ∧ _
    rw [fow, up_if]
    by_cases z : i = c
    · rw [if_pos z, if_pos z]
      exact ⟨rfl, p, hp, rfl⟩
    · rw [if_neg z, if_neg z]
      exact c2 i hi
  case q_c4 =>
    intro i hi
    show (va_up (M 16 10) c (-1) i = -1 ∧ _) ∨ (∃ k2, k2 < no ∧ va_up (M 16 10) c (-1) i = nI k2 ∧ _)
    rw [f44, up_if]
    by_cases z : i = c
    · rw [if_pos z, if_pos z]
      exact Or.inl ⟨rfl, rfl⟩
    · rw [if_neg z, if_neg z]
      rcases c4 i hi with w | ⟨k2, w1, w2, w3, w4, w5⟩
      · exact Or.inl w
      · refine Or.inr ⟨k2, w1, w2, w3, w4, ?_⟩
        rw [f4, if_neg (fun q2 => z ?_)]
        · exact w5
        · rw [q2, hkc] at w4
          exact ((nI_eq (by omega) (by omega)).mp w4).symm
  case q_g1 =>
    show nI y.1 = _
    rw [hy.1]
    rfl
  case q_g2 => exact rfl
  case q_g3 => exact rfl
  case q_g4 => exact hr2
  case q_g5 => exact hr3
  case q_g6 =>
    intro j hj
    show y.2.1 j = _
    rw [hy.2.1 j hj]
    exact (hE_R (n := nc) (x := (P, K 11 0, K 4 2)) (y := (P, M 16 12, M 16 7)) (c := c) (a := K 4 2 c) (w := nI p) ⟨rfl, g6, fun i hi => (c2 i hi).1⟩).2.1 j hj
  case q_g7 =>
    intro i hi
    have hL0 : hL nc y := hL_f hy (hE_L (n := nc) (by omega) (by omega) (fun i hi _ => g7 i hi))
    have := hL0 i hi
    rw [hy.1] at this
    exact this
  case q_g8 =>
    rw [ecn]
    omega
  case q_g9 =>
    rw [ecn]
    rcases g9 with z | z
    · exact Or.inl z
    · exact Or.inr (by omega)
  case q_d7 =>
    intro s hs2
    rw [e82 _ (by omega), e83 _ (by omega)]
    exact d7 s hs2
  case q_d8 =>
    intro s hs2
    rw [e9 _ (by omega)]
    exact d8 s hs2
  case q_d13 =>
    intro d2_ hd2 z s hs2 i hi
    have hlt := (d8 s (by omega) i hi).2.2
    have h45 := d12 d2_ hd2 (by omega) s hs2 i hi
    rw [fow, if_neg (fun w => ?_)]
    · exact d13 d2_ hd2 z s hs2 i hi
    · rw [w] at h45
      rcases (c3 c hc).2 with v | ⟨_, d3_, v1, v2, v | v⟩
      · exact nI_neg1 (a := d2_) (by omega) (h45.symm.trans v.2)
      · exact hst v.2
      · have : d3_ = d2_ := (nI_eq (by omega) (by omega)).mp (v2.symm.trans h45)
        rw [this, z] at v
        exact absurd v.1 (by decide)
  case q_o3 =>
    intro i hi
    show _ = va_up (M 13 32) k 98 i ∧ _
    rw [f4, up_if]
    by_cases z : i = k
    · rw [if_pos z, if_pos z]
      exact ⟨rfl, Or.inr (Or.inl rfl)⟩
    · rw [if_neg z, if_neg z]
      exact o3 i hi
  case q_o5 =>
    intro i hi
    show _ → _ = va_up (M 16 34) k (nI p) i ∧ _ ≠ K 5 2 i ∧ _ ∧ (K 5 5) i = (M 16 35) i ∧ _
    rw [f4, f3, up_if]
    by_cases z : i = k
    · rw [if_pos z, if_pos z, if_pos z]
      refine fun _ => ⟨rfl, ?_, ⟨p, hp, rfl⟩, ?_, ns, by omega, by rw [hsln, z]⟩
      · rw [z, hsel]
        exact fun w => hne w.symm
      · rw [z, hw0, ow k hk h111]
    · rw [if_neg z, if_neg z, if_neg z]
      intro w
      obtain ⟨y1, y2, y3, y4, j, y5, y6⟩ := o5 i hi w
      exact ⟨y1, y2, y3, y4, j, by omega, by rw [hsl' j y5]; exact y6⟩
  case q_o6 =>
    intro i hi
    show (K 5 5) i = -1 ∨ (_ ∧ ∃ d2, d2 < nd ∧ (K 5 5) i = nI d2 ∧ _)
    rw [f4]
    by_cases z : i = k
    · rw [z]
      exact Or.inl hw0
    · rw [if_neg z]
      exact o6 i hi
  case q_o7 =>
    intro i hi
    show _ → ∃ c2_, c2_ < nc ∧ _ ∧ va_up (M 16 10) c (-1) c2_ = nI i ∧ _
    rw [f4]
    by_cases z : i = k
    · rw [if_pos z]
      intro w
      exact absurd w (by decide)
    · rw [if_neg z]
      intro w
      obtain ⟨c2_, y1, y2, y3, y4, y5⟩ := o7 i hi w
      have hcn : c2_ ≠ c := fun v => by
        rw [v, hofc] at y3
        exact z ((nI_eq (by omega) (by omega)).mp y3).symm
      refine ⟨c2_, y1, y2, ?_, ?_, y5⟩
      · rw [up_if, if_neg hcn]
        exact y3
      · rw [fow, if_neg hcn]
        exact y4
  case q_ow =>
    intro i hi
    show _ → (M 16 35) i = -1
    rw [f4]
    by_cases z : i = k
    · rw [if_pos z]
      intro w
      exact absurd w (by decide)
    · rw [if_neg z]
      exact ow i hi
  case q_o8 =>
    intro j hj
    show lAdd (kH (k3 (k3 (k3 (k3 (k3 (k3 K 10 0 p (K 10 0 p - K 5 1 k)) 5 4 k 98) 5 3 k (nI p)) 4 4 c 0) 0 3 0 (K 0 3 0 + (K 5 1 k + 9) / 10)) 10 0 q (va_up (K 10 0) p (K 10 0 p - K 5 1 k) q + (K 5 1 k - (K 5 1 k + 9) / 10))) r2 y) 3 k 9 3 j = _ ∧ _ ∧ va_up (M 16 36) k (nI ns) (va_up sl ns k j) = nI j ∧ _
    rcases (by omega : j < ns ∨ j = ns) with z | z
    · rw [lAdd_s9 (K := kH (k3 (k3 (k3 (k3 (k3 (k3 K 10 0 p (K 10 0 p - K 5 1 k)) 5 4 k 98) 5 3 k (nI p)) 4 4 c 0) 0 3 0 (K 0 3 0 + (K 5 1 k + 9) / 10)) 10 0 q (va_up (K 10 0) p (K 10 0 p - K 5 1 k) q + (K 5 1 k - (K 5 1 k + 9) / 10))) r2 y) ns1 (by omega), if_neg (by omega), hsl' j z, f4, if_neg (hslk j z), va_up_n _ _ (hslk j z)]
      exact o8 j z
    · rw [z, lAdd_s9 (K := kH (k3 (k3 (k3 (k3 (k3 (k3 K 10 0 p (K 10 0 p - K 5 1 k)) 5 4 k 98) 5 3 k (nI p)) 4 4 c 0) 0 3 0 (K 0 3 0 + (K 5 1 k + 9) / 10)) 10 0 q (va_up (K 10 0) p (K 10 0 p - K 5 1 k) q + (K 5 1 k - (K 5 1 k + 9) / 10))) r2 y) ns1 (by omega), if_pos rfl, hsln, f4, if_pos rfl, va_up_s]
      exact ⟨rfl, hk, rfl, by decide⟩
  case q_o9 =>
    intro d2_ hd2 z
    have hco : ∀ j, j < ns → (K 5 5) (sl j) = K 5 5 (sl j) ∧ (lAdd (kH (k3 (k3 (k3 (k3 (k3 (k3 K 10 0 p (K 10 0 p - K 5 1 k)) 5 4 k 98) 5 3 k (nI p)) 4 4 c 0) 0 3 0 (K 0 3 0 + (K 5 1 k + 9) / 10)) 10 0 q (va_up (K 10 0) p (K 10 0 p - K 5 1 k) q + (K 5 1 k - (K 5 1 k + 9) / 10))) r2 y) 3 k) 5 3 (sl j) = K 5 3 (sl j) := fun j hj => by
      refine ⟨?_, ?_⟩
      · rfl
      · rw [f3, if_neg (hslk j hj)]
    show ((K 5 5) (va_up sl ns k ns) = nI d2_ → (lAdd (kH (k3 (k3 (k3 (k3 (k3 (k3 K 10 0 p (K 10 0 p - K 5 1 k)) 5 4 k 98) 5 3 k (nI p)) 4 4 c 0) 0 3 0 (K 0 3 0 + (K 5 1 k + 9) / 10)) 10 0 q (va_up (K 10 0) p (K 10 0 p - K 5 1 k) q + (K 5 1 k - (K 5 1 k + 9) / 10))) r2 y) 3 k) 4 2 (K 5 0 (va_up sl ns k ns)).toNatClampNeg = (lAdd (kH (k3 (k3 (k3 (k3 (k3 (k3 K 10 0 p (K 10 0 p - K 5 1 k)) 5 4 k 98) 5 3 k (nI p)) 4 4 c 0) 0 3 0 (K 0 3 0 + (K 5 1 k + 9) / 10)) 10 0 q (va_up (K 10 0) p (K 10 0 p - K 5 1 k) q + (K 5 1 k - (K 5 1 k + 9) / 10))) r2 y) 3 k) 5 3 (va_up sl ns k ns) ∧ ChOk (K 5 5) (K 5 0) ((lAdd (kH (k3 (k3 (k3 (k3 (k3 (k3 K 10 0 p (K 10 0 p - K 5 1 k)) 5 4 k 98) 5 3 k (nI p)) 4 4 c 0) 0 3 0 (K 0 3 0 + (K 5 1 k + 9) / 10)) 10 0 q (va_up (K 10 0) p (K 10 0 p - K 5 1 k) q + (K 5 1 k - (K 5 1 k + 9) / 10))) r2 y) 3 k) 5 3) (K 5 2) (va_up sl ns k) d2_ (ChB cn sk (K 6 3) (K 7 0) d2_) ns (va_up ((lAdd (kH (k3 (k3 (k3 (k3 (k3 (k3 K 10 0 p (K 10 0 p - K 5 1 k)) 5 4 k 98) 5 3 k (nI p)) 4 4 c 0) 0 3 0 (K 0 3 0 + (K 5 1 k + 9) / 10)) 10 0 q (va_up (K 10 0) p (K 10 0 p - K 5 1 k) q + (K 5 1 k - (K 5 1 k + 9) / 10))) r2 y) 3 k) 4 2) (K 5 0 (va_up sl ns k ns)).toNatClampNeg (K 5 2 (va_up sl ns k ns)))) ∧ (¬ (K 5 5) (va_up sl ns k ns) = nI d2_ → ChOk (K 5 5) (K 5 0) ((lAdd (kH (k3 (k3 (k3 (k3 (k3 (k3 K 10 0 p (K 10 0 p - K 5 1 k)) 5 4 k 98) 5 3 k (nI p)) 4 4 c 0) 0 3 0 (K 0 3 0 + (K 5 1 k + 9) / 10)) 10 0 q (va_up (K 10 0) p (K 10 0 p - K 5 1 k) q + (K 5 1 k - (K 5 1 k + 9) / 10))) r2 y) 3 k) 5 3) (K 5 2) (va_up sl ns k) d2_ (ChB cn sk (K 6 3) (K 7 0) d2_) ns ((lAdd (kH (k3 (k3 (k3 (k3 (k3 (k3 K 10 0 p (K 10 0 p - K 5 1 k)) 5 4 k 98) 5 3 k (nI p)) 4 4 c 0) 0 3 0 (K 0 3 0 + (K 5 1 k + 9) / 10)) 10 0 q (va_up (K 10 0) p (K 10 0 p - K 5 1 k) q + (K 5 1 k - (K 5 1 k + 9) / 10))) r2 y) 3 k) 4 2))
    rw [hsln, hkc, nI_clamp (by omega)]
    refine ⟨fun w => ⟨?_, ?_⟩, fun w => ?_⟩
    · rw [fow, f3, if_pos rfl, if_pos rfl]
    · refine ch_gen (D := fun _ => True) (fun o o2 ho hB s hs2 i hi => ?_) ns (fun j hj => ?_) (K 4 2) _ (fun i _ => ?_) (o9 d2_ hd2 z)
      · rw [ho _ trivial]
        exact hB s hs2 i hi
      · rw [hsl' j hj, (hco j hj).1, (hco j hj).2]
        exact ⟨Iff.rfl, fun _ => ⟨rfl, rfl, rfl, trivial⟩⟩
      · rw [up_if, fow, hsel]
        by_cases v : i = c
        · rw [if_pos v, v]
        · rw [if_neg v, if_neg v]
    · have hnc2 : K 4 5 c ≠ nI d2_ := fun v => by
        have v2 := hnoc d2_ hd2 v
        exact v2
      refine ch_gen (D := fun i => i ≠ c) (fun o o2 ho hB s hs2 i hi => ?_) ns (fun j hj => ?_) (K 4 2) _ (fun i hi => ?_) (o9 d2_ hd2 z)
      · rw [ho _ (fun v => hnc2 (by rw [← v]; exact d12 d2_ hd2 (by omega) s hs2 i hi))]
        exact hB s hs2 i hi
      · rw [hsl' j hj, (hco j hj).1, (hco j hj).2]
        refine ⟨Iff.rfl, fun v => ⟨rfl, rfl, rfl, fun v2 => ?_⟩⟩
        rcases o6 (sl j) (o8 j hj).2.1 with u | ⟨_, d3_, u1, u2, u3, c3_, u4, u5, u6⟩
        · rw [u] at v
          exact nI_neg1 (a := d2_) (by omega) v.symm
        · rw [u5, nI_clamp (by omega)] at v2
          rw [v2, ← u2, v] at u6
          exact hnc2 u6
      · rw [fow, if_neg hi]

