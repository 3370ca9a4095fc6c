/-! Chains of sales that wait; offer. -/
theorem ch_gen {kw kc kb ks kw2 kc2 kb2 ks2 : Nat → Int32} {sl sl2 : Nat → Nat} {d : Nat} {B B2 : (Nat → Int32) → Prop} {D : Nat → Prop} (hB : ∀ o o2 : Nat → Int32, (∀ c, D c → o2 c = o c) → B o → B2 o2) : ∀ n, (∀ j, j < n → (kw2 (sl2 j) = nI d ↔ kw (sl j) = nI d) ∧ (kw (sl j) = nI d → kc2 (sl2 j) = kc (sl j) ∧ kb2 (sl2 j) = kb (sl j) ∧ ks2 (sl2 j) = ks (sl j) ∧ D (kc (sl j)).toNatClampNeg)) → ∀ o o2 : Nat → Int32, (∀ c, D c → o2 c = o c) → ChOk kw kc kb ks sl d B n o → ChOk kw2 kc2 kb2 ks2 sl2 d B2 n o2 := by
  intro n
  induction n with
  | zero => intro _ o o2 ho h; exact hB o o2 ho h
  | succ n ih =>
    intro hj o o2 ho h
    obtain ⟨a1, a2⟩ := hj n (by omega)
    have hj2 : ∀ j, j < n → _ := fun j hlt => hj j (by omega)
    refine ⟨fun q => ?_, fun q => ?_⟩
    · obtain ⟨b1, b2, b3, b4⟩ := a2 (a1.mp q)
      obtain ⟨c1, c2⟩ := h.1 (a1.mp q)
      rw [b1, b2, b3]
      refine ⟨(ho _ b4).trans c1, ih hj2 _ _ (fun c hc => ?_) c2⟩
      rw [up_if, up_if, ho c hc]
    · exact ih hj2 o o2 ho (h.2 (fun z => q (a1.mpr z)))
theorem ch_same {kw kc kb ks kw2 kc2 kb2 ks2 : Nat → Int32} {sl : Nat → Nat} {d n : Nat} {B : (Nat → Int32) → Prop} {o : Nat → Int32} (hj : ∀ j, j < n → kw2 (sl j) = kw (sl j) ∧ kc2 (sl j) = kc (sl j) ∧ kb2 (sl j) = kb (sl j) ∧ ks2 (sl j) = ks (sl j)) (h : ChOk kw kc kb ks sl d B n o) : ChOk kw2 kc2 kb2 ks2 sl d B n o :=
  ch_gen (D := fun _ => True) (fun o o2 ho hB => by rw [show o2 = o from funext fun c => ho c trivial]; exact hB) n (fun j hlt => ⟨by rw [(hj j hlt).1], fun _ => ⟨(hj j hlt).2.1, (hj j hlt).2.2.1, (hj j hlt).2.2.2, trivial⟩⟩) o o (fun _ _ => rfl) h
theorem kof (K : KS) (cd : Nat) (x2 : Int32) (b k : Nat) : kOffer K cd x2 5 b k = if k = nO K then (match b with | 0 => Int32.ofNat cd | 1 => x2 | 2 => K 4 2 cd | 3 => -1 | 4 => 111 | _ => -1) else K 5 b k := by
  unfold kOffer
  rw [if_neg (by omega)]
  by_cases q : k = nO K
  · rw [if_pos ⟨rfl, q⟩, if_pos q]
    rfl
  · rw [if_neg (fun z => q z.2), if_neg q]
-- k rows
theorem k_offer {t np nc nd no : Nat} {sn : Nat → Nat} {K : KS} {G : Int32 → KS → Prop} {p1 p2 p3 : Int32} (ht : t < 512) (hI : V36 t np nc nd no sn K) (hf : ∀ v : Int32, v < 0 → G v K) (hK : ∀ K', V36 (t+1) np nc nd (no+1) sn K' → SM K K' → no < 60 → G (nI no) K') : wpL_c22 G 20 1000 K p1 p2 p3 := by
  obtain ⟨ns, P, r, cn, dp, ew, go, bl, sl, sk, M, ap, h⟩ := hI
  have nc1 := rx_nc1 h
  have nc2 := rx_nc2 h
  have nc3 := rx_nc3 h
  have nc4 := rx_nc4 h
  have lc0 := rx_lc0 h
  have l0 := rx_l0 h
  have nd2 := rx_nd2 h
  have nd4 := rx_nd4 h
  have no1 := rx_no1 h
  have no2 := rx_no2 h
  have no3 := rx_no3 h
  have no4 := rx_no4 h
  have lc2 := rx_lc2 h
  have l2 := rx_l2 h
  have ns1 := rx_ns1 h
  have ns3 := rx_ns3 h
  have c2 := rx_c2 h
  have c3 := rx_c3 h
  have c4 := rx_c4 h
  have o8 := rx_o8 h
  have d7 := rx_d7 h
  have d8 := rx_d8 h
  have hC : nC K = nc := nC_of nc2 (by omega)
  have hO : nO K = no := nO_of no2 (by omega)
  have hD : nD K = nd := nD_of nd2 (by omega)
  unfold wpL_c22 wpX6_offer
  refine ⟨1, 6, by omega, by omega, at_card nc1 nc2 lc0 nc4 l0 (fun c hc e => ?_) (fun _ => ⟨by omega, by omega, xI (hf _ (by decide))⟩)⟩
  subst e
  refine ⟨fun y => ⟨by omega, by omega, xA (hf _ (by decide))⟩, fun y1 => ⟨fun y2 => ⟨by rw [hC]; exact hc, fun q => ⟨by omega, by omega, xS (hf _ (by decide))⟩, fun q => ⟨fun q2 => ⟨by omega, by omega, xS (hf _ (by decide))⟩, fun q2 => ⟨fun q3 => ?_, fun q3 => ⟨by omega, by omega, xS (hf _ (by decide))⟩⟩⟩⟩, fun y => ⟨by omega, by omega, xA (hf _ (by decide))⟩⟩⟩
  · have hno : no < 60 := by
      rw [no1] at q3
      exact (nI_ltI (b := 60) (by omega) (by omega)).mp q3
    have hm1 : M 16 10 c = -1 := by
      rcases c4 c hc with z | ⟨k, z1, z2, z3, z4⟩
      · exact z.1
      · rw [z3] at q2
        exact absurd q2 (by decide)
    obtain ⟨pr, hp1, hp2, hp3⟩ : ∃ x, 1 ≤ x ∧ x ≤ 999 ∧ p2 = nI x := by
      have a0 : ¬ p2 < 0 := fun z => y1 (Int32.lt_trans z (by decide))
      obtain ⟨j, hj, e⟩ := nI_of2 (n := 999) (by decide) a0 y2
      refine ⟨j, ?_, hj, e⟩
      rcases (by omega : j = 0 ∨ 1 ≤ j) with z | z
      · rw [e, z] at y1
        exact absurd (by decide) y1
      · exact z
    have hz : RR (t+1) (t+1) np nc nd (no+1) ns P r cn sn dp ew ew go bl sl sk (k3 (lAdd (kOffer K c p2) 2 no) 4 4 c 1) (k3 (k3 (k3 (k3 (k3 (k3 (k3 (k3 M 3 0 0 0) 16 30 no (nI c)) 16 31 no p2) 13 32 no 111) 16 33 no (M 16 7 c)) 16 35 no (-1)) 16 10 c (nI no)) 3 29 0 (nI no + 1)) ap := by
      have hx := rr_up (Nat.le_succ t) (Nat.le_succ t) h
      obtain ⟨np1, np2, np3, nc1, nc2, nc3, nc4, nd1, nd2, nd3, nd4, no1, no2, no3, no4, ns1, ns2, ns3, lc0, lc1, lc2, lc3, l0, l1, l2, pl, sd, hs_, av, ab, c0, c1, c2, c3, c4, c6, c7, g1, g2, g3, g4, g5, g6, g7, g8, g9, d1, d2, d3, d4, d5, d6, dt, d7, d8, d9, d10, d11, d12, d13, d14, z0, n1, n0, n2, n5, n6, o1, o2, o3, o4, o5, o6, o7, ow, o8, o9⟩ := hx
      have f0 : ∀ i, (k3 (lAdd (kOffer K c p2) 2 no) 4 4 c 1) 5 0 i = if i = no then nI c else K 5 0 i := fun i => (kof K c p2 0 i).trans (by rw [hO]; rfl)
      have f1 : ∀ i, (k3 (lAdd (kOffer K c p2) 2 no) 4 4 c 1) 5 1 i = if i = no then p2 else K 5 1 i := fun i => (kof K c p2 1 i).trans (by rw [hO]; rfl)
      have f2 : ∀ i, (k3 (lAdd (kOffer K c p2) 2 no) 4 4 c 1) 5 2 i = if i = no then K 4 2 c else K 5 2 i := fun i => (kof K c p2 2 i).trans (by rw [hO]; rfl)
      have f3 : ∀ i, (k3 (lAdd (kOffer K c p2) 2 no) 4 4 c 1) 5 3 i = if i = no then -1 else K 5 3 i := fun i => (kof K c p2 3 i).trans (by rw [hO]; rfl)
      have f4 : ∀ i, (k3 (lAdd (kOffer K c p2) 2 no) 4 4 c 1) 5 4 i = if i = no then 111 else K 5 4 i := fun i => (kof K c p2 4 i).trans (by rw [hO]; rfl)
      have f5 : ∀ i, (k3 (lAdd (kOffer K c p2) 2 no) 4 4 c 1) 5 5 i = if i = no then -1 else K 5 5 i := fun i => (kof K c p2 5 i).trans (by rw [hO]; rfl)
      have e82 : ∀ m, m ≠ 2 → (k3 (lAdd (kOffer K c p2) 2 no) 4 4 c 1) 8 2 m = K 8 2 m := fun m hm => lAdd_82 (K := kOffer K c p2) (x := no) hm
      have e83 : ∀ m, m ≠ 2 → (k3 (lAdd (kOffer K c p2) 2 no) 4 4 c 1) 8 3 m = K 8 3 m := fun m hm => lAdd_83 (K := kOffer K c p2) (x := no) hm
      have e9 : ∀ m, m ≠ 2 → (k3 (lAdd (kOffer K c p2) 2 no) 4 4 c 1) 9 m = K 9 m := fun m hm => lAdd_9 (K := kOffer K c p2) (x := no) hm
      have ecn : cntE ((k3 (lAdd (kOffer K c p2) 2 no) 4 4 c 1) 5 4) 98 (no + 1) = cntE (K 5 4) 98 no := by
        show cntE ((k3 (lAdd (kOffer K c p2) 2 no) 4 4 c 1) 5 4) 98 no + (if (k3 (lAdd (kOffer K c p2) 2 no) 4 4 c 1) 5 4 no = 98 then 1 else 0) = _
        rw [f4 no, if_pos rfl, if_neg (by decide), cntE_cong (g := K 5 4) (w := 98) (fun i hi => by rw [f4 i, if_neg (by omega)])]
        rfl
      unfold RR
      refine ⟨np1, np2, np3, nc1, nc2, nc3, nc4, nd1, nd2, nd3, nd4, ?q_no1, ?q_no2, ?q_no3, ?q_no4, ns1, ns2, ?q_ns3, lc0, lc1, ?q_lc2, lc3, l0, l1, ?q_l2, pl, sd, hs_, av, ab, c0, c1, c2, c3, ?q_c4, c6, c7, g1, g2, g3, g4, g5, g6, g7, ?q_g8, ?q_g9, d1, d2, d3, d4, d5, d6, dt, ?q_d7, ?q_d8, d9, d10, d11, d12, d13, d14, z0, n1, n0, n2, n5, n6, ?q_o1, ?q_o2, ?q_o3, ?q_o4, ?q_o5, ?q_o6, ?q_o7, ?q_ow, ?q_o8, ?q_o9⟩
      case q_no1 => exact lAdd_s2 (K := kOffer K c p2) (x := no) no1
      case q_no2 =>
        show K 0 21 0 + 1 = _
        rw [no2, nI_1]
      case q_no3 => exact nI_1 no
      case q_no4 => omega
      case q_ns3 => omega
      case q_lc2 =>
        have := lcp_add lc2 (by omega)
        rw [← no1] at this
        exact (show (k3 (lAdd (kOffer K c p2) 2 no) 4 4 c 1) 8 3 2 = lCap (K 8 2 2) (K 8 3 2) from lAdd_s3 (K := kOffer K c p2) (n := 2) (x := no)) ▸ this
      case q_l2 =>
        intro j hj
        show lAdd (kOffer K c p2) 2 no 9 2 j = nI j
        rw [lAdd_s9 (K := kOffer K c p2) no1 (by omega)]
        by_cases z : j = no
        · rw [if_pos z, z]
        · rw [if_neg z]
          exact l2 j (by omega)
      case q_c4 =>
        intro c2_ hc2
        show (va_up (M 16 10) c (nI no) c2_ = -1 ∧ va_up (K 4 4) c 1 c2_ = 0) ∨ _
        by_cases z : c2_ = c
        · refine Or.inr ⟨no, by omega, ?_, ?_, ?_, ?_⟩
          · show va_up (M 16 10) c (nI no) c2_ = _
            rw [up_if, if_pos z]
          · show va_up (K 4 4) c 1 c2_ = _
            rw [up_if, if_pos z]
          · rw [f0, if_pos rfl, z]
          · rw [f4, if_pos rfl]
        · rcases c4 c2_ hc2 with y | ⟨k, z1, z2, z3, z4, z5⟩
          · rw [up_if, up_if, if_neg z, if_neg z]
            exact Or.inl y
          · refine Or.inr ⟨k, by omega, ?_, ?_, ?_, ?_⟩
            · show va_up (M 16 10) c (nI no) c2_ = _
              rw [up_if, if_neg z]
              exact z2
            · show va_up (K 4 4) c 1 c2_ = _
              rw [up_if, if_neg z]
              exact z3
            · rw [f0, if_neg (by omega)]
              exact z4
            · rw [f4, if_neg (by omega)]
              exact z5
      case q_g8 => rw [ecn]; exact g8
      case q_g9 => rw [ecn]; exact g9
      case q_d7 =>
        intro s hs2
        rw [e82 _ (by omega), e83 _ (by omega)]
        exact d7 s hs2
      case q_d8 =>
        intro s hs2
        rw [e9 _ (by omega)]
        exact d8 s hs2
      case q_o1 =>
        intro k hk
        show ∃ c2_, c2_ < nc ∧ _ ∧ va_up (M 16 30) no (nI c) k = nI c2_
        rw [f0, up_if]
        by_cases z : k = no
        · rw [if_pos z, if_pos z]
          exact ⟨c, hc, rfl, rfl⟩
        · rw [if_neg z, if_neg z]
          exact o1 k (by omega)
      case q_o2 =>
        intro k hk
        show _ = va_up (M 16 31) no p2 k ∧ _
        rw [f1, up_if]
        by_cases z : k = no
        · rw [if_pos z, if_pos z]
          exact ⟨rfl, pr, hp1, hp2, hp3⟩
        · rw [if_neg z, if_neg z]
          exact o2 k (by omega)
      case q_o3 =>
        intro k hk
        show _ = va_up (M 13 32) no 111 k ∧ _
        rw [f4, up_if]
        by_cases z : k = no
        · rw [if_pos z, if_pos z]
          exact ⟨rfl, Or.inl rfl⟩
        · rw [if_neg z, if_neg z]
          exact o3 k (by omega)
      case q_o4 =>
        intro k hk
        show _ = va_up (M 16 33) no (M 16 7 c) k ∧ _
        rw [f2, up_if]
        by_cases z : k = no
        · rw [if_pos z, if_pos z]
          exact c2 c hc
        · rw [if_neg z, if_neg z]
          exact o4 k (by omega)
      case q_o5 =>
        intro k hk z2
        rw [f4] at z2
        by_cases z : k = no
        · rw [if_pos z] at z2
          exact absurd z2 (by decide)
        · rw [if_neg z] at z2
          rw [f3, f2, f5, if_neg z, if_neg z, if_neg z]
          obtain ⟨y1, y2, y3, y4, y5⟩ := o5 k (by omega) z2
          refine ⟨y1, y2, y3, ?_, y5⟩
          show _ = va_up (M 16 35) no (-1) k
          rw [up_if, if_neg z]
          exact y4
      case q_o6 =>
        intro k hk
        rw [f5, f4, f0]
        by_cases z : k = no
        · rw [if_pos z]
          exact Or.inl rfl
        · rw [if_neg z, if_neg z, if_neg z]
          exact o6 k (by omega)
      case q_o7 =>
        intro k hk
        show _ → ∃ c2_, c2_ < nc ∧ _ ∧ va_up (M 16 10) c (nI no) c2_ = nI k ∧ _
        rw [f4, f0, f2]
        by_cases z : k = no
        · rw [if_pos z, if_pos z, if_pos z]
          refine fun _ => ⟨c, hc, rfl, ?_, rfl, q⟩
          rw [up_if, if_pos rfl, z]
        · rw [if_neg z, if_neg z, if_neg z]
          intro z2
          obtain ⟨c2_, y1, y2, y3, y4⟩ := o7 k (by omega) z2
          refine ⟨c2_, y1, y2, ?_, y4⟩
          rw [up_if, if_neg (fun w => ?_)]
          · exact y3
          · rw [w, hm1] at y3
            exact absurd y3.symm (nI_neg1 (by omega))
      case q_ow =>
        intro k hk
        show _ → va_up (M 16 35) no (-1) k = -1
        rw [f4, up_if]
        by_cases z : k = no
        · rw [if_pos z, if_pos z]
          exact fun _ => rfl
        · rw [if_neg z, if_neg z]
          exact ow k (by omega)
      case q_o8 =>
        intro j hj
        obtain ⟨y1, y2, y3, y4⟩ := o8 j hj
        rw [f4, if_neg (by omega)]
        exact ⟨y1, by omega, y3, y4⟩
      case q_o9 =>
        intro d hd hq
        refine ch_same (fun j hj => ?_) (o9 d hd hq)
        have := (o8 j hj).2.1
        rw [f5, f0, f3, f2, if_neg (by omega), if_neg (by omega), if_neg (by omega), if_neg (by omega)]
        exact ⟨rfl, rfl, rfl, rfl⟩
    refine ⟨by omega, by omega, ?_, ?_, 1, 160, by omega, by omega, ?_, ?_, ?_⟩
    · refine ⟨by rw [no2, nI_1, nI_clamp (by omega), hO], nI_clamp (n := c) (by omega), fun i hi he j hj => ?_⟩
      rw [hO]
      rcases (by omega : i = 0 ∨ i = 1 ∨ i = 2 ∨ i = 3 ∨ 4 ≤ i) with rfl | rfl | rfl | rfl | hi4
      · exact absurd he (by decide)
      · exact absurd he (by decide)
      · rw [no1, nI_clamp (by omega)] at hj
        rw [l2 j hj, nI_clamp (by omega)]
        exact hj
      · rw [ns1, nI_clamp (by omega)] at hj
        have := (o8 j hj).2.1
        rw [(o8 j hj).1, nI_clamp (by omega)]
        exact this
      · obtain ⟨i2, rfl⟩ : ∃ i2, i = i2 + 4 := ⟨i - 4, by omega⟩
        exact absurd he (by show ¬ (4 : Nat) = 5; decide)
    · show nO K < (K 0 21 0 + 1).toNatClampNeg
      rw [hO, no2, nI_1, nI_clamp (by omega)]
      omega
    · refine ok_add (K := kOffer K c p2) (cnt := no) no1 lc2 (by omega) (by omega) (by omega) (fun j hj => ?_)
      show (K 9 2 j).toNatClampNeg < nO (kOffer K c p2)
      rw [l2 j hj, nI_clamp (by omega)]
      show j < (K 0 21 0 + 1).toNatClampNeg
      rw [no2, nI_1, nI_clamp (by omega)]
      omega
    · show c < nC K
      rw [hC]
      exact hc
    · rw [hO]
      have e9 : ((k3 (lAdd (kOffer K c p2) 2 no) 4 4 c 1) 8 2 2 - 1) = nI no := by
        rw [show (k3 (lAdd (kOffer K c p2) 2 no) 4 4 c 1) 8 2 2 = nI (no + 1) from lAdd_s2 (K := kOffer K c p2) (x := no) no1, nI_pred]
      show G ((k3 (lAdd (kOffer K c p2) 2 no) 4 4 c 1) 8 2 2 - 1) _
      rw [e9]
      exact hK _ ⟨ns, P, r, cn, dp, ew, go, bl, sl, sk, _, ap, hz⟩ ⟨rfl, rfl, rfl⟩ hno
