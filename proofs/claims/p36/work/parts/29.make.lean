/-! make -/
theorem kcf (K : KS) (x1 x2 x3 : Int32) (b k : Nat) : kCard K x1 x2 x3 4 b k = if k = nC K then (match b with | 0 => x1 | 1 => x2 | 2 => x3 | 3 => 45 | 4 => 0 | _ => -1) else K 4 b k := by
  unfold kCard
  rw [if_neg (by omega)]
  by_cases q : k = nC K
  · rw [if_pos ⟨rfl, q⟩, if_pos q]
    rfl
  · rw [if_neg (fun z => q z.2), if_neg q]
-- k rows
theorem k_make {t np nc nd no : Nat} {sn : Nat → Nat} {K : KS} {G : Int32 → KS → Prop} {p1 p2 p3 : Int32} (ht : t < 512) (hI : V36 t np nc nd no sn K) (hf : ∀ v : Int32, v < 0 → G v K) (hK : ∀ K', V36 (t+1) np (nc+1) nd no sn K' → SM K K' → nc < 40 → G (nI nc) K') : wpL_c1 G 20 14000 K p1 p2 p3 := by
  obtain ⟨ns, P, r, cn, dp, ew, go, bl, sl, sk, M, ap, h⟩ := hI
  have np1 := rx_np1 h
  have np2 := rx_np2 h
  have np3 := rx_np3 h
  have nc1 := rx_nc1 h
  have nc2 := rx_nc2 h
  have nc3 := rx_nc3 h
  have nc4 := rx_nc4 h
  have lc0 := rx_lc0 h
  have l0 := rx_l0 h
  have nd2 := rx_nd2 h
  have nd4 := rx_nd4 h
  have no2 := rx_no2 h
  have no4 := rx_no4 h
  have o1 := rx_o1 h
  have d7 := rx_d7 h
  have d8 := rx_d8 h
  have g1 := rx_g1 h
  have g2 := rx_g2 h
  have g3 := rx_g3 h
  have g4 := rx_g4 h
  have g5 := rx_g5 h
  have g6 := rx_g6 h
  have g7 := rx_g7 h
  have hC : nC K = nc := nC_of nc2 (by omega)
  have hO : nO K = no := nO_of no2 (by omega)
  have hD : nD K = nd := nD_of nd2 (by omega)
  have hP := rr_P h (by omega)
  have hr := rOK_le g4
  unfold wpL_c1 wpX6_make
  refine ⟨1, 6, by omega, by omega, nd_player (fun z => ?_) (fun _ => ⟨by omega, by omega, xI (hf _ (by decide))⟩)⟩
  rw [np1] at z
  obtain ⟨p, hp, rfl⟩ := nI_inN (by omega) z.1 z.2
  rw [nc1]
  refine ⟨fun y => ⟨by omega, by omega, xA (hf _ (by decide))⟩, fun y1 => ⟨fun y2 => ⟨fun q3 => ?_, fun q3 => ⟨by omega, by omega, xS (hf _ (by decide))⟩⟩, fun y => ⟨by omega, by omega, xA (hf _ (by decide))⟩⟩⟩
  · have hnc : nc < 40 := (nI_ltI (b := 40) (by omega) (by omega)).mp q3
    obtain ⟨kd, hk1, hk2⟩ := nI_of2 (n := 15) (by decide) y1 y2
    have hl4 : ∀ i, i < 4 + 2 * nD K → ek i = 4 → ∀ j, j < (K 8 2 i).toNatClampNeg → (K 9 i j).toNatClampNeg < nc := by
      intro i hi he j hj
      rcases (by omega : i = 0 ∨ i = 1 ∨ i = 2 ∨ i = 3 ∨ 4 ≤ i) with rfl | rfl | rfl | rfl | hi4
      · rw [nc1, nI_clamp (by omega)] at hj
        rw [l0 j hj, nI_clamp (by omega)]
        exact hj
      · exact absurd he (by decide)
      · exact absurd he (by decide)
      · exact absurd he (by decide)
      · obtain ⟨i2, rfl⟩ : ∃ i2, i = i2 + 4 := ⟨i - 4, by omega⟩
        obtain ⟨a1, a2, a3, a4⟩ := d7 i2 (by omega)
        rw [a1, nI_clamp (by omega)] at hj
        obtain ⟨b1, b2, b3⟩ := d8 i2 (by omega) j hj
        rw [b1, nI_clamp (by omega)]
        exact b3
    have hg2 : 2 * r ≤ 13824 ∨ 3 * (P + 1) ≤ r := by
      unfold rOK at g4
      omega
    refine ⟨by omega, by omega, ?_, ?_, 1, 160, by omega, by omega, ?_, 1, 13824, by omega, by omega, ?_⟩
    · refine ⟨by rw [nc2, nI_1, nI_clamp (by omega), hC], fun i hi => ?_, fun i hi he j hj => by rw [hC]; exact hl4 i hi he j hj⟩
      obtain ⟨c, hc, e1, _⟩ := o1 i (by omega)
      rw [e1, nI_clamp (by omega), hC]
      exact hc
    · show nC K < (K 0 20 0 + 1).toNatClampNeg
      rw [hC, nc2, nI_1, nI_clamp (by omega)]
      omega
    · refine ok_add (K := kCard K (nI nc) p2 (nI p)) (cnt := nc) nc1 lc0 (by omega) (by omega) (by omega) (fun j hj => ?_)
      show (K 9 0 j).toNatClampNeg < (K 0 20 0 + 1).toNatClampNeg
      rw [l0 j hj, nI_clamp (by omega), nc2, nI_1, nI_clamp (by omega)]
      omega
    · rw [hC]
      refine en_ok (K := lAdd (kCard K (nI nc) p2 (nI p)) 0 nc) (P := P) (r := r) g1 g3 g4 g5 (by omega) (by omega) (fun r2 w1 w2 w3 f hf => ?_)
      have hz : RR (t+1) (t+1) np (nc+1) nd no ns (P+1) r2 cn sn dp ew ew go bl sl sk (kL (lAdd (kCard K (nI nc) p2 (nI p)) 0 nc) r2 (P + 1) f) (k3 (mH (k3 (k3 (k3 (k3 (k3 M 3 0 0 0) 16 6 nc p2) 13 8 nc 45) 16 10 nc (-1)) 16 9 nc (-1)) (hE nc (-1) (nI p) (P, M 16 12, M 16 7))) 3 5 0 (nI nc + 1)) ap := by
        have hx := rr_up (Nat.le_succ t) (Nat.le_refl t) h
        obtain ⟨np1, np2, np3, nc1, nc2, nc3, nc4, nd1, nd2, nd3, nd4, no1, no2, no3, no4, ns1, ns2, ns3, lc0, lc1, lc2, lc3, l0, l1, l2, pl, sd, hs_, av, ab, c0, c1, c2, c3, c4, c6, c7, g1, g2, g3, g4, g5, g6, g7, g8, g9, d1, d2, d3, d4, d5, d6, dt, d7, d8, d9, d10, d11, d12, d13, d14, z0, n1, n0, n2, n5, n6, o1, o2, o3, o4, o5, o6, o7, ow, o8, o9⟩ := hx
        have f0 : ∀ i, (kL (lAdd (kCard K (nI nc) p2 (nI p)) 0 nc) r2 (P + 1) f) 4 0 i = if i = nc then nI nc else K 4 0 i := fun i => (kcf K (nI nc) p2 (nI p) 0 i).trans (by rw [hC]; rfl)
        have f1 : ∀ i, (kL (lAdd (kCard K (nI nc) p2 (nI p)) 0 nc) r2 (P + 1) f) 4 1 i = if i = nc then p2 else K 4 1 i := fun i => (kcf K (nI nc) p2 (nI p) 1 i).trans (by rw [hC]; rfl)
        have f2 : ∀ i, (kL (lAdd (kCard K (nI nc) p2 (nI p)) 0 nc) r2 (P + 1) f) 4 2 i = if i = nc then nI p else K 4 2 i := fun i => (kcf K (nI nc) p2 (nI p) 2 i).trans (by rw [hC]; rfl)
        have f3 : ∀ i, (kL (lAdd (kCard K (nI nc) p2 (nI p)) 0 nc) r2 (P + 1) f) 4 3 i = if i = nc then 45 else K 4 3 i := fun i => (kcf K (nI nc) p2 (nI p) 3 i).trans (by rw [hC]; rfl)
        have f4 : ∀ i, (kL (lAdd (kCard K (nI nc) p2 (nI p)) 0 nc) r2 (P + 1) f) 4 4 i = if i = nc then 0 else K 4 4 i := fun i => (kcf K (nI nc) p2 (nI p) 4 i).trans (by rw [hC]; rfl)
        have f5 : ∀ i, (kL (lAdd (kCard K (nI nc) p2 (nI p)) 0 nc) r2 (P + 1) f) 4 5 i = if i = nc then -1 else K 4 5 i := fun i => (kcf K (nI nc) p2 (nI p) 5 i).trans (by rw [hC]; rfl)
        have e82 : ∀ m, m ≠ 0 → (kL (lAdd (kCard K (nI nc) p2 (nI p)) 0 nc) r2 (P + 1) f) 8 2 m = K 8 2 m := fun m hm => lAdd_82 (K := kCard K (nI nc) p2 (nI p)) (x := nc) hm
        have e83 : ∀ m, m ≠ 0 → (kL (lAdd (kCard K (nI nc) p2 (nI p)) 0 nc) r2 (P + 1) f) 8 3 m = K 8 3 m := fun m hm => lAdd_83 (K := kCard K (nI nc) p2 (nI p)) (x := nc) hm
        have e9 : ∀ m, m ≠ 0 → (kL (lAdd (kCard K (nI nc) p2 (nI p)) 0 nc) r2 (P + 1) f) 9 m = K 9 m := fun m hm => lAdd_9 (K := kCard K (nI nc) p2 (nI p)) (x := nc) hm
        have hsk : ∀ s, s < 2 * nd → ∀ i, i < cn s → sk s i ≠ nc := fun s hs2 i hi q => by
          have := (d8 s hs2 i hi).2.2
          omega
        unfold RR
        refine ⟨np1, np2, np3, ?q_nc1, ?q_nc2, ?q_nc3, ?q_nc4, nd1, nd2, nd3, nd4, no1, no2, no3, no4, ns1, ns2, ns3, ?q_lc0, lc1, lc2, lc3, ?q_l0, l1, l2, pl, sd, hs_, av, ab, ?q_c0, ?q_c1, ?q_c2, ?q_c3, ?q_c4, ?q_c6, ?q_c7, ?q_g1, ?q_g2, ?q_g3, ?q_g4, ?q_g5, ?q_g6, ?q_g7, ?q_g8, ?q_g9, d1, d2, d3, d4, d5, d6, dt, ?q_d7, ?q_d8, d9, d10, d11, ?q_d12, ?q_d13, d14, z0, n1, n0, n2, n5, n6, ?q_o1, o2, o3, o4, o5, ?q_o6, ?q_o7, ow, o8, ?q_o9⟩
        case q_nc1 => exact lAdd_s2 (K := kCard K (nI nc) p2 (nI p)) (x := nc) nc1
        case q_nc2 =>
          show K 0 20 0 + 1 = _
          rw [nc2, nI_1]
        case q_nc3 => exact nI_1 nc
        case q_nc4 => omega
        case q_lc0 =>
          have := lcp_add lc0 (by omega)
          rw [← nc1] at this
          exact (show (kL (lAdd (kCard K (nI nc) p2 (nI p)) 0 nc) r2 (P + 1) f) 8 3 0 = lCap (K 8 2 0) (K 8 3 0) from (lAdd_s3 (K := kCard K (nI nc) p2 (nI p)) (n := 0) (x := nc))) ▸ this
        case q_l0 =>
          intro j hj
          show lAdd (kCard K (nI nc) p2 (nI p)) 0 nc 9 0 j = nI j
          rw [lAdd_s9 (K := kCard K (nI nc) p2 (nI p)) nc1 (by omega)]
          by_cases z : j = nc
          · rw [if_pos z, z]
          · rw [if_neg z]
            exact l0 j (by omega)
        case q_c0 =>
          intro c hc
          rw [f0]
          by_cases z : c = nc
          · rw [if_pos z, z]
          · rw [if_neg z]
            exact c0 c (by omega)
        case q_c1 =>
          intro c hc
          show _ = va_up (M 16 6) nc p2 c ∧ _
          rw [f1, up_if]
          by_cases z : c = nc
          · rw [if_pos z, if_pos z]
            exact ⟨rfl, kd, hk1, hk2⟩
          · rw [if_neg z, if_neg z]
            exact c1 c (by omega)
        case q_c2 =>
          intro c hc
          show _ = va_up (M 16 7) nc (nI p) c ∧ _
          rw [f2, up_if]
          by_cases z : c = nc
          · rw [if_pos z, if_pos z]
            exact ⟨rfl, p, hp, rfl⟩
          · rw [if_neg z, if_neg z]
            exact c2 c (by omega)
        case q_c3 =>
          intro c hc
          show _ = va_up (M 13 8) nc 45 c ∧ (_ ∨ (_ = va_up (M 16 9) nc (-1) c ∧ _))
          rw [f3, f5, up_if, up_if]
          by_cases z : c = nc
          · rw [if_pos z, if_pos z, if_pos z]
            exact ⟨rfl, Or.inl ⟨rfl, rfl⟩⟩
          · rw [if_neg z, if_neg z, if_neg z, if_neg z]
            exact c3 c (by omega)
        case q_c4 =>
          intro c hc
          show (va_up (M 16 10) nc (-1) c = -1 ∧ _) ∨ (∃ k, k < no ∧ va_up (M 16 10) nc (-1) c = nI k ∧ _)
          rw [f4, up_if]
          by_cases z : c = nc
          · rw [if_pos z, if_pos z]
            exact Or.inl ⟨rfl, rfl⟩
          · rw [if_neg z, if_neg z]
            exact c4 c (by omega)
        case q_c6 =>
          intro c hc d hd q
          rw [f5] at q
          by_cases z : c = nc
          · rw [if_pos z] at q
            exact absurd q.symm (nI_neg1 (by omega))
          · rw [if_neg z] at q
            exact c6 c (by omega) d hd q
        case q_c7 =>
          intro d hd q
          show cntE ((kL (lAdd (kCard K (nI nc) p2 (nI p)) 0 nc) r2 (P + 1) f) 4 5) (nI d) nc + (if (kL (lAdd (kCard K (nI nc) p2 (nI p)) 0 nc) r2 (P + 1) f) 4 5 nc = nI d then 1 else 0) = _
          rw [f5, if_pos rfl, if_neg (fun z => nI_neg1 (a := d) (by omega) z.symm), cntE_cong (g := K 4 5) (w := nI d) (fun i hi => by rw [f5 i, if_neg (by omega)])]
          exact c7 d hd q
        case q_g1 => exact rfl
        case q_g2 => exact rfl
        case q_g3 => exact rfl
        case q_g4 => exact w1
        case q_g5 => exact w2
        case q_g6 =>
          intro j hj
          show f j = va_up (va_up (va_up (M 16 12) (3 * P) (nI nc)) (3 * P + 1) (-1)) (3 * P + 2) (nI p) j
          rw [hf j hj]
          show va_up (va_up (va_up (K 11 0) (3 * P) (nI nc)) (3 * P + 1) (-1)) (3 * P + 2) (nI p) j = _
          rw [up_if, up_if, up_if, up_if, up_if, up_if]
          by_cases c1 : j = 3 * P + 2
          · rw [if_pos c1, if_pos c1]
          · rw [if_neg c1, if_neg c1]
            by_cases c2 : j = 3 * P + 1
            · rw [if_pos c2, if_pos c2]
            · rw [if_neg c2, if_neg c2]
              by_cases c3 : j = 3 * P
              · rw [if_pos c3, if_pos c3]
              · rw [if_neg c3, if_neg c3]
                exact g6 j (by omega)
        case q_g7 =>
          intro c hc
          show lastH f (nI c) (P + 1) = _
          rw [lastH_cong (g := (hE nc (-1) (nI p) (P, K 11 0, K 4 2)).2.1) (fun j hj => hf j hj), f2]
          have := hE_L (n := nc + 1) (c := nc) (a := -1) (w := nI p) (x := (P, K 11 0, K 4 2)) (by omega) (by omega) (fun i hi q => g7 i (by omega)) c hc
          exact this
        case q_g8 =>
          show P + 1 + cntE (K 5 4) 98 no + 8 * (np + nd + sumN cn (2 * nd)) + 7 * (nc + 1) ≤ 8 * (t + 1)
          omega
        case q_g9 =>
          rcases g9 with q | q
          · exact Or.inl q
          · exact Or.inr (by show P + 1 + cntE (K 5 4) 98 no ≤ 7 * (t + 1); omega)
        case q_d7 =>
          intro s hs2
          rw [e82 _ (by omega), e83 _ (by omega)]
          exact d7 s hs2
        case q_d8 =>
          intro s hs2 i hi
          rw [e9 _ (by omega)]
          obtain ⟨b1, b2, b3⟩ := d8 s hs2 i hi
          exact ⟨b1, b2, by omega⟩
        case q_d12 =>
          intro d hd q s hs2 i hi
          rw [f5, if_neg (hsk s (by omega) i hi)]
          exact d12 d hd q s hs2 i hi
        case q_d13 =>
          intro d hd q s hs2 i hi
          rw [f2, if_neg (hsk s (by omega) i hi)]
          exact d13 d hd q s hs2 i hi
        case q_o1 =>
          intro k hk
          obtain ⟨c, b1, b2⟩ := o1 k hk
          exact ⟨c, by omega, b2⟩
        case q_o6 =>
          intro k hk
          rcases o6 k hk with y | ⟨y1, d, y2, y3, y4, c, y5, y6, y7⟩
          · exact Or.inl y
          · refine Or.inr ⟨y1, d, y2, y3, y4, c, by omega, y6, ?_⟩
            rw [f5, if_neg (by omega)]
            exact y7
        case q_o7 =>
          intro k hk q
          obtain ⟨c, b1, b2, b3, b4, b5⟩ := o7 k hk q
          refine ⟨c, by omega, b2, ?_, ?_, ?_⟩
          · show va_up (M 16 10) nc (-1) c = _
            rw [up_if, if_neg (by omega)]
            exact b3
          · rw [f2, if_neg (by omega)]
            exact b4
          · rw [f3, if_neg (by omega)]
            exact b5
        case q_o9 =>
          intro d hd q
          refine ch_gen (D := fun c => c < nc) (fun o o2 ho hB s hs2 i hi => ?_) ns (fun j hj => ⟨Iff.rfl, fun _ => ⟨rfl, rfl, rfl, ?_⟩⟩) (K 4 2) _ (fun c hc => ?_) (o9 d hd q)
          · rw [ho _ (d8 s (by omega) i hi).2.2]
            exact hB s hs2 i hi
          · obtain ⟨c, b1, b2, _⟩ := o1 (sl j) (o8 j hj).2.1
            show (K 5 0 (sl j)).toNatClampNeg < nc
            rw [b2, nI_clamp (by omega)]
            exact b1
          · have hc2 : c < nc := hc
            rw [f2, if_neg (by omega)]
      exact hK _ ⟨ns, _, _, cn, dp, ew, go, bl, sl, sk, _, ap, hz⟩ ⟨rfl, rfl, rfl⟩ hnc
