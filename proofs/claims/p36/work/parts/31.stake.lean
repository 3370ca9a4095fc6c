/-! stake -/
def skU (sk : Nat → Nat → Nat) (s n c : Nat) : Nat → Nat → Nat := fun x y => if x = s ∧ y = n then c else sk x y
theorem skU_if (sk : Nat → Nat → Nat) (s n c x y : Nat) : skU sk s n c x y = if x = s ∧ y = n then c else sk x y := rfl
theorem ix2 (a b : Nat) : (2 : Int32) * nI a + nI b = nI (2 * a + b) := by rw [← nI_add, ← nI_mul]; rfl
theorem ix3 (a b : Nat) : (3 : Int32) * nI a + nI b = nI (3 * a + b) := by rw [← nI_add, ← nI_mul]; rfl
theorem ix4 (a b : Nat) : (4 : Int32) * nI a + nI b = nI (4 * a + b) := by rw [← nI_add, ← nI_mul]; rfl
theorem ix6 (a b : Nat) : (6 : Int32) * nI a + nI b = nI (6 * a + b) := by rw [← nI_add, ← nI_mul]; rfl
theorem ix8 (a b : Nat) : (8 : Int32) * nI a + nI b = nI (8 * a + b) := by rw [← nI_add, ← nI_mul]; rfl
theorem ix16 (a b : Nat) : (16 : Int32) * nI a + nI b = nI (16 * a + b) := by rw [← nI_add, ← nI_mul]; rfl
theorem sd_inj {s d e : Nat} (h1 : s = 2 * d ∨ s = 2 * d + 1) (h2 : s = 2 * e ∨ s = 2 * e + 1) : e = d := by omega
theorem sd_ne {s d e : Nat} (h1 : s = 2 * d ∨ s = 2 * d + 1) (h : e ≠ d) : ¬ 2 * e = s ∧ ¬ 2 * e + 1 = s := by omega
theorem sd_ne2 {s s2 d e : Nat} (h1 : s = 2 * d ∨ s = 2 * d + 1) (h2 : s2 = 2 * e ∨ s2 = 2 * e + 1) (h : e ≠ d) : ¬ s2 = s := by omega
theorem rr_stake {t np nc nd no ns P r : Nat} {cn sn dp ew go bl sl : Nat → Nat} {sk : Nat → Nat → Nat} {K M : KS} {ap : Int64} {d s c : Nat} (h : RR t t np nc nd no ns P r cn sn dp ew ew go bl sl sk K M ap) (hd : d < nd) (hw : ew d = 0) (hg : go d = 0) (hs : s = 2 * d ∨ s = 2 * d + 1) (hc : c < nc) (h45 : K 4 3 c = 45) (hf : K 4 4 c = 0) (ho : K 4 2 c = K 7 0 s) (hn : cn s < 8) : RR (t+1) (t+1) np nc nd no ns P r (va_up cn s (cn s + 1)) sn dp ew ew go bl sl (skU sk s (cn s) c) (k3 (k3 (lAdd K (s + 4) c) 4 3 c 115) 4 5 c (nI d)) (k3 (k3 (k3 (k3 (k3 (k3 M 3 0 0 0) 13 8 c 115) 16 9 c (nI d)) 16 22 (8 * s + cn s) (nI c)) 16 23 (8 * s + cn s) 0) 16 21 s (nI (cn s + 1))) ap := by
  have hx := rr_up (Nat.le_succ t) (Nat.le_refl t) h
  obtain ⟨np1, np2, np3, nc1, nc2, nc3, nc4, nd1, nd2, nd3, nd4, no1, no2, no3, no4, ns1, ns2, ns3, lc0, lc1, lc2, lc3, l0, l1, l2, pl, sd, hs_, av, ab, c0, c1, c2, c3, c4, c6, c7, g1, g2, g3, g4, g5, g6, g7, g8, g9, d1, d2, d3, d4, d5, d6, dt, d7, d8, d9, d10, d11, d12, d13, d14, z0, n1, n0, n2, n5, n6, o1, o2, o3, o4, o5, o6, o7, ow, o8, o9⟩ := hx
  have hsd : s < 2 * nd := by omega
  obtain ⟨q1, q2, q3, q4⟩ := d7 s hsd
  have h5 : K 4 5 c = -1 := by
    rcases (c3 c hc).2 with y | ⟨_, x, _, _, y | y⟩
    · exact y.2
    · rw [y.2] at h45
      exact absurd h45 (by decide)
    · rw [y.2] at h45
      exact absurd h45 (by decide)
  have hm1 : M 16 10 c = -1 := by
    rcases c4 c hc with z | ⟨k, z1, z2, z3, z4⟩
    · exact z.1
    · rw [z3] at hf
      exact absurd hf (by decide)
  have hsn : sn d = 0 := (n1 d (by omega)).2.2.2 hg
  have e82 : ∀ m, m ≠ s + 4 → (k3 (k3 (lAdd K (s + 4) c) 4 3 c 115) 4 5 c (nI d)) 8 2 m = K 8 2 m := fun m hm => lAdd_82 (x := c) hm
  have e83 : ∀ m, m ≠ s + 4 → (k3 (k3 (lAdd K (s + 4) c) 4 3 c 115) 4 5 c (nI d)) 8 3 m = K 8 3 m := fun m hm => lAdd_83 (x := c) hm
  have e9 : ∀ m, m ≠ s + 4 → (k3 (k3 (lAdd K (s + 4) c) 4 3 c 115) 4 5 c (nI d)) 9 m = K 9 m := fun m hm => lAdd_9 (x := c) hm
  have e43 : ∀ i, (k3 (k3 (lAdd K (s + 4) c) 4 3 c 115) 4 5 c (nI d)) 4 3 i = if i = c then 115 else K 4 3 i := fun _ => rfl
  have e45 : ∀ i, (k3 (k3 (lAdd K (s + 4) c) 4 3 c 115) 4 5 c (nI d)) 4 5 i = if i = c then nI d else K 4 5 i := fun _ => rfl
  have hcn : ∀ x, va_up cn s (cn s + 1) x = if x = s then cn s + 1 else cn x := fun _ => rfl
  have hnew : ∀ dd, dd < nd → ew dd ≠ 2 → ∀ s2, (s2 = 2 * dd ∨ s2 = 2 * dd + 1) → ∀ i, i < cn s2 → sk s2 i ≠ c := fun dd hdd hq s2 hs2 i hi z => by
    have := d12 dd hdd hq s2 hs2 i hi
    rw [z, h5] at this
    exact nI_neg1 (by omega) this.symm
  have hsum := sumN_up (f := cn) (cn s + 1) hsd
  have hc45 : ∀ dd, dd < nd → cntE ((k3 (k3 (lAdd K (s + 4) c) 4 3 c 115) 4 5 c (nI d)) 4 5) (nI dd) nc = cntE (K 4 5) (nI dd) nc + if dd = d then 1 else 0 := by
    intro dd hdd
    have := cntE_up (f := K 4 5) (nI dd) (nI d) hc
    rw [h5, if_neg (fun z => nI_neg1 (a := dd) (by omega) z.symm)] at this
    show cntE (va_up (K 4 5) c (nI d)) (nI dd) nc = _
    rw [Nat.add_zero] at this
    rw [this]
    by_cases z : dd = d
    · rw [if_pos z, if_pos (by rw [z])]
    · rw [if_neg z, if_neg (nI_ne (by omega) (by omega) (fun w => z w.symm))]
  unfold RR
  refine ⟨np1, np2, np3, ?q_nc1, nc2, nc3, nc4, ?q_nd1, nd2, nd3, nd4, ?q_no1, no2, no3, no4, ?q_ns1, ns2, ns3, ?q_lc0, ?q_lc1, ?q_lc2, ?q_lc3, ?q_l0, ?q_l1, ?q_l2, pl, sd, hs_, av, ab, c0, c1, c2, ?q_c3, c4, ?q_c6, ?q_c7, g1, g2, g3, g4, g5, g6, g7, ?q_g8, ?q_g9, d1, d2, d3, d4, d5, d6, dt, ?q_d7, ?q_d8, ?q_d9, d10, d11, ?q_d12, ?q_d13, ?q_d14, ?q_z0, n1, n0, n2, n5, ?q_n6, o1, o2, o3, o4, o5, ?q_o6, ?q_o7, ow, ?q_o8, ?q_o9⟩
  case q_nc1 => rw [e82 _ (by omega)]; exact nc1
  case q_nd1 => rw [e82 _ (by omega)]; exact nd1
  case q_no1 => rw [e82 _ (by omega)]; exact no1
  case q_ns1 => rw [e82 _ (by omega)]; exact ns1
  case q_lc0 => rw [e83 _ (by omega)]; exact lc0
  case q_lc1 => rw [e83 _ (by omega)]; exact lc1
  case q_lc2 => rw [e83 _ (by omega)]; exact lc2
  case q_lc3 => rw [e83 _ (by omega)]; exact lc3
  case q_l0 => rw [e9 _ (by omega)]; exact l0
  case q_l1 => rw [e9 _ (by omega)]; exact l1
  case q_l2 => rw [e9 _ (by omega)]; exact l2
  case q_c3 =>
    intro c2_ hc2
    show _ = va_up (M 13 8) c 115 c2_ ∧ (_ ∨ (_ = va_up (M 16 9) c (nI d) c2_ ∧ _))
    rw [e43, e45, up_if, up_if]
    by_cases z : c2_ = c
    · rw [if_pos z, if_pos z, if_pos z]
      exact ⟨rfl, Or.inr ⟨by rw [if_pos z], d, hd, rfl, Or.inl ⟨hw, rfl⟩⟩⟩
    · rw [if_neg z, if_neg z, if_neg z, if_neg z]
      exact c3 c2_ hc2
  case q_c6 =>
    intro c2_ hc2 dd hdd q
    rw [e45] at q
    by_cases z : c2_ = c
    · rw [if_pos z] at q
      have : d = dd := (nI_eq (by omega) (by omega)).mp q
      refine ⟨s, this ▸ hs, cn s, by rw [hcn, if_pos rfl]; exact Nat.lt_succ_self _, ?_⟩
      rw [skU_if, if_pos ⟨rfl, rfl⟩]
      exact z.symm
    · rw [if_neg z] at q
      obtain ⟨s2, w1, i, w2, w3⟩ := c6 c2_ hc2 dd hdd q
      refine ⟨s2, w1, i, ?_, ?_⟩
      · rw [hcn]
        by_cases y : s2 = s
        · rw [if_pos y]
          rw [y] at w2
          omega
        · rw [if_neg y]
          exact w2
      · rw [skU_if, if_neg (fun y => ?_)]
        · exact w3
        · rw [y.1, y.2] at w2
          omega
  case q_c7 =>
    intro dd hdd q
    rw [hc45 dd hdd, c7 dd hdd q, hcn, hcn]
    by_cases z : dd = d
    · rw [if_pos z]
      rcases hs with y | y
      · rw [if_pos (by omega), if_neg (by omega), y, z]
        omega
      · rw [if_neg (by omega), if_pos (by omega), y, z]
        omega
    · rw [if_neg z, if_neg (sd_ne hs z).1, if_neg (sd_ne hs z).2]
      rfl
  case q_g8 =>
    show P + cntE (K 5 4) 98 no + 8 * (np + nd + sumN (va_up cn s (cn s + 1)) (2 * nd)) + 7 * nc ≤ 8 * (t + 1)
    omega
  case q_g9 =>
    rcases g9 with ⟨s2, w1, w2⟩ | q
    · refine Or.inl ⟨s2, w1, ?_⟩
      rw [hcn, if_neg (fun z => ?_)]
      · exact w2
      · rw [z] at w2
        omega
    · exact Or.inr (by show P + cntE (K 5 4) 98 no ≤ 7 * (t + 1); omega)
  case q_d7 =>
    intro s2 hs2
    show _ ∧ va_up (M 16 21) s (nI (cn s + 1)) s2 = _ ∧ _
    rw [hcn, up_if]
    by_cases z : s2 = s
    · rw [if_pos z, if_pos z, z]
      refine ⟨lAdd_s2 (x := c) q1, rfl, by omega, ?_⟩
      have := lcp_add q4 (by omega)
      rw [← q1] at this
      exact (show (k3 (k3 (lAdd K (s + 4) c) 4 3 c 115) 4 5 c (nI d)) 8 3 (s + 4) = _ from lAdd_s3 (n := s + 4) (x := c)) ▸ this
    · rw [if_neg z, if_neg z, e82 _ (by omega), e83 _ (by omega)]
      exact d7 s2 hs2
  case q_d8 =>
    intro s2 hs2 i hi
    show _ ∧ va_up (M 16 22) (8 * s + cn s) (nI c) (8 * s2 + i) = _ ∧ _
    rw [hcn] at hi
    by_cases z : s2 = s
    · rw [if_pos z] at hi
      rw [z]
      show lAdd K (s + 4) c 9 (s + 4) i = _ ∧ _
      rw [lAdd_s9 q1 (by omega), skU_if, up_if]
      by_cases y : i = cn s
      · rw [if_pos y, if_pos ⟨rfl, y⟩, if_pos (by rw [y])]
        exact ⟨rfl, rfl, hc⟩
      · rw [if_neg y, if_neg (fun w => y w.2), if_neg (fun w => y (Nat.add_left_cancel w))]
        exact d8 s hsd i (by omega)
    · rw [if_neg z] at hi
      have h8 := (d7 s2 hs2).2.2.1
      rw [e9 _ (by omega), up_if, if_neg (by omega), skU_if, if_neg (fun w => z w.1)]
      exact d8 s2 hs2 i hi
  case q_d9 =>
    intro s2 hs2 i hi
    show _ ∧ (_ → K 18 s2 i = va_up (M 16 23) (8 * s + cn s) 0 (8 * s2 + i)) ∧ _
    obtain ⟨w1, w2, w3⟩ := d9 s2 hs2 i hi
    rw [hcn, up_if]
    by_cases z : s2 = s
    · rw [if_pos z]
      by_cases y : i = cn s
      · rw [if_pos (by omega)]
        exact ⟨w1, fun _ => w3 (by rw [z]; omega), fun v => by omega⟩
      · rw [if_neg (by omega)]
        exact ⟨w1, fun v => w2 (by rw [z]; omega), fun v => w3 (by rw [z]; omega)⟩
    · rw [if_neg z, if_neg (by omega)]
      exact ⟨w1, w2, w3⟩
  case q_d12 =>
    intro dd hdd q s2 hs2 i hi
    rw [hcn] at hi
    by_cases y : s2 = s ∧ i = cn s
    · rw [skU_if, if_pos y, e45, if_pos rfl]
      rw [show dd = d from sd_inj hs (y.1 ▸ hs2)]
    · rw [skU_if, if_neg y]
      have hi2 : i < cn s2 := by
        by_cases z : s2 = s
        · rw [if_pos z] at hi
          rw [z]
          have : ¬ i = cn s := fun w => y ⟨z, w⟩
          omega
        · rw [if_neg z] at hi
          exact hi
      rw [e45, if_neg (hnew dd hdd q s2 hs2 i hi2)]
      exact d12 dd hdd q s2 hs2 i hi2
  case q_d13 =>
    intro dd hdd q s2 hs2 i hi
    rw [hcn] at hi
    by_cases y : s2 = s ∧ i = cn s
    · rw [skU_if, if_pos y, y.1]
      exact ho
    · rw [skU_if, if_neg y]
      have hi2 : i < cn s2 := by
        by_cases z : s2 = s
        · rw [if_pos z] at hi
          rw [z]
          have : ¬ i = cn s := fun w => y ⟨z, w⟩
          omega
        · rw [if_neg z] at hi
          exact hi
      exact d13 dd hdd q s2 hs2 i hi2
  case q_d14 =>
    intro dd hdd s2 s3 hs2 hs3 i j hi hj q
    rw [hcn] at hi hj
    rw [skU_if, skU_if] at q
    have lift : ∀ s4 i4, i4 < (if s4 = s then cn s + 1 else cn s4) → ¬ (s4 = s ∧ i4 = cn s) → i4 < cn s4 := by
      intro s4 i4 v y
      by_cases z : s4 = s
      · rw [if_pos z] at v
        rw [z]
        have : ¬ i4 = cn s := fun w => y ⟨z, w⟩
        omega
      · rw [if_neg z] at v
        exact v
    by_cases y : s2 = s ∧ i = cn s
    · by_cases y2 : s3 = s ∧ j = cn s
      · exact ⟨by rw [y.1, y2.1], by rw [y.2, y2.2]⟩
      · rw [if_pos y, if_neg y2] at q
        have hq2 : ew dd ≠ 2 := by rw [show dd = d from sd_inj hs (y.1 ▸ hs2), hw]; decide
        exact absurd q.symm (hnew dd hdd hq2 s3 hs3 j (lift s3 j hj y2))
    · by_cases y2 : s3 = s ∧ j = cn s
      · rw [if_neg y, if_pos y2] at q
        have hq2 : ew dd ≠ 2 := by rw [show dd = d from sd_inj hs (y2.1 ▸ hs3), hw]; decide
        exact absurd q (hnew dd hdd hq2 s2 hs2 i (lift s2 i hi y))
      · rw [if_neg y, if_neg y2] at q
        exact d14 dd hdd s2 s3 hs2 hs3 i j (lift s2 i hi y) (lift s3 j hj y2) q
  case q_z0 =>
    intro dd hdd hd8
    obtain ⟨w1, w2, w3, w4⟩ := z0 dd hdd hd8
    show _ ∧ va_up (M 16 21) s (nI (cn s + 1)) (2 * dd) = 0 ∧ va_up (M 16 21) s (nI (cn s + 1)) (2 * dd + 1) = 0 ∧ _
    rw [up_if, up_if, if_neg (by omega), if_neg (by omega)]
    exact ⟨w1, w2, w3, w4⟩
  case q_n6 =>
    intro dd hdd s2 hs2
    have hne : dd ≠ d := fun z => by
      rw [z, hsn] at hs2
      omega
    rw [hcn, hcn, if_neg (sd_ne hs hne).1, if_neg (sd_ne hs hne).2]
    exact n6 dd hdd s2 hs2
  case q_o6 =>
    intro k hk
    rcases o6 k hk with y | ⟨y1, dd, y2, y3, y4, c2_, y5, y6, y7⟩
    · exact Or.inl y
    · refine Or.inr ⟨y1, dd, y2, y3, y4, c2_, y5, y6, ?_⟩
      rw [e45, if_neg (fun z => ?_)]
      · exact y7
      · rw [z, h5] at y7
        exact nI_neg1 (by omega) y7.symm
  case q_o7 =>
    intro k hk q
    obtain ⟨c2_, w1, w2, w3, w4, w5⟩ := o7 k hk q
    refine ⟨c2_, w1, w2, w3, w4, ?_⟩
    rw [e43, if_neg (fun z => ?_)]
    · exact w5
    · rw [z, hm1] at w3
      exact nI_neg1 (by omega) w3.symm
  case q_o8 =>
    intro j hj
    rw [e9 _ (by omega)]
    exact o8 j hj
  case q_o9 =>
    intro dd hdd q
    have hne : dd ≠ d := fun z => by
      rw [z, hw] at q
      omega
    refine ch_gen (D := fun _ => True) (fun o o2 ho2 hB s2 hs2 i hi => ?_) ns (fun j hj => ⟨Iff.rfl, fun _ => ⟨rfl, rfl, rfl, trivial⟩⟩) (K 4 2) _ (fun _ _ => rfl) (o9 dd hdd q)
    rw [hcn, if_neg (sd_ne2 hs hs2 hne)] at hi
    rw [skU_if, if_neg (fun z => sd_ne2 hs hs2 hne z.1), ho2 _ trivial]
    exact hB s2 hs2 i hi
-- k rows
theorem k_stake {t np nc nd no : Nat} {sn : Nat → Nat} {K : KS} {G : Int32 → KS → Prop} {p1 p2 p3 : Int32} (ht : t < 512) (hI : V36 t np nc nd no sn K) (hf : ∀ v : Int32, v < 0 → G v K) (hK : ∀ v K' c, c < nc → p2 = nI c → 0 ≤ v → V36 (t+1) np nc nd no sn K' → SM K K' → K' 4 3 c = 115 → G v K') : wpL_c9 G 50 1000 K p1 p2 p3 := by
  obtain ⟨ns, P, r, cn, dp, ew, go, bl, sl, sk, M, ap, h⟩ := hI
  have nc1 := rx_nc1 h
  have nc2 := rx_nc2 h
  have nc3 := rx_nc3 h
  have nc4 := rx_nc4 h
  have lc0 := rx_lc0 h
  have l0 := rx_l0 h
  have nd1 := rx_nd1 h
  have nd2 := rx_nd2 h
  have nd3 := rx_nd3 h
  have nd4 := rx_nd4 h
  have lc1 := rx_lc1 h
  have l1 := rx_l1 h
  have c2 := rx_c2 h
  have c3 := rx_c3 h
  have c4 := rx_c4 h
  have d1 := rx_d1 h
  have d2 := rx_d2 h
  have d7 := rx_d7 h
  have d8 := rx_d8 h
  have hC : nC K = nc := nC_of nc2 (by omega)
  have hD : nD K = nd := nD_of nd2 (by omega)
  unfold wpL_c9 wpX6_stake
  refine ⟨1, 6, by omega, by omega, at_duel nd1 nd2 lc1 nd4 l1 (fun d hd e => ?_) (fun _ => ⟨by omega, by omega, xI (hf _ (by decide))⟩)⟩
  · subst e
    refine ⟨1, 6, by omega, by omega, at_card nc1 nc2 lc0 nc4 l0 (fun c hc e => ?_) (fun _ => ⟨by omega, by omega, xI (hf _ (by decide))⟩)⟩
    · subst e
      obtain ⟨a1, a2, a3, a4, a5⟩ := d2 d hd
      obtain ⟨b1, b2, pa, pb, hpa, hpb, hpab, b3, b4⟩ := d1 d hd
      have hcp : c < nC K := by omega
      have hdp : d < nD K := by omega
      unfold wpX2_isOf wpX2_sideOf
      rw [a2, phv_111 a4]
      have hadd : ∀ e, e ≤ 1 → okAdd K (2 * d + e + 4) 1 160 := by
        intro e he
        obtain ⟨r1, r2, r3, r4⟩ := d7 (2 * d + e) (by omega)
        refine ok_add r1 r4 (by omega) (by omega) (by omega) (fun j hj => ?_)
        obtain ⟨v1, v2, v3⟩ := d8 (2 * d + e) (by omega) j hj
        show (K 9 (2 * d + e + 4) j).toNatClampNeg < nC K
        rw [v1, nI_clamp (by omega)]
        omega
      have hh : ∀ (e : Nat), e ≤ 1 → (ew d = 0 ∧ go d = 0) → K 4 2 c = K 7 0 (2 * d + e) → K 4 3 c = 45 → ¬ ¬ K 4 4 c = 0 → cn (2 * d + e) < 8 → G ((k3 (k3 (lAdd K (2 * d + e + 4) c) 4 3 c 115) 4 5 c (nI d)) 8 2 (2 * d + e + 4)) (k3 (k3 (lAdd K (2 * d + e + 4) c) 4 3 c 115) 4 5 c (nI d)) := by
        intro e he hq ho2 z z2 z3
        obtain ⟨r1, r2, r3, r4⟩ := d7 (2 * d + e) (by omega)
        have e9 : (k3 (k3 (lAdd K (2 * d + e + 4) c) 4 3 c 115) 4 5 c (nI d)) 8 2 (2 * d + e + 4) = nI (cn (2 * d + e) + 1) := lAdd_s2 (x := c) r1
        refine hK _ _ c hc rfl ?_ ⟨ns, P, r, _, dp, ew, go, bl, sl, _, _, ap, rr_stake h hd hq.1 hq.2 (by omega) hc z (Classical.byContradiction z2) ho2 z3⟩ ⟨rfl, rfl, rfl⟩ ?_
        · rw [e9]
          exact nI_pos' (by omega)
        · show va_up (K 4 3) c 115 c = 115
          rw [up_if, if_pos rfl]
      refine ⟨hdp, fun q => ⟨by omega, by omega, xU (hf _ (by decide))⟩, fun q => ⟨hcp, hdp, fun w => ?_, fun w => ⟨fun w2 => ⟨fun w3 => absurd rfl w3, fun _ => ⟨by omega, by omega, xU (hf _ (by decide))⟩⟩, fun w2 => ?_⟩⟩⟩
      · obtain ⟨r1, r2, r3, r4⟩ := d7 (2 * d) (by omega)
        refine ⟨fun _ => ⟨hdp, fun w2 => absurd w w2, fun _ => ⟨fun z => ⟨by omega, by omega, xS (hf _ (by decide))⟩, fun z => ⟨fun z2 => ⟨by omega, by omega, xS (hf _ (by decide))⟩, fun z2 => ⟨by omega, ?_⟩⟩⟩⟩, fun w2 => absurd w2 (by decide)⟩
        rw [r1]
        exact ⟨fun z3 => ⟨1, 160, by omega, by omega, hadd 0 (by omega), hh 0 (by omega) q w.symm z (fun y => y z2) ((nI_ltI (a := cn (2 * d)) (b := 8) (by omega) (by omega)).mp z3)⟩, fun z3 => ⟨by omega, by omega, xS (hf _ (by decide))⟩⟩
      · obtain ⟨r1, r2, r3, r4⟩ := d7 (2 * d + 1) (by omega)
        refine ⟨fun _ => ⟨hdp, fun _ => ⟨fun z => ⟨by omega, by omega, xS (hf _ (by decide))⟩, fun z => ⟨fun z2 => ⟨by omega, by omega, xS (hf _ (by decide))⟩, fun z2 => ⟨by omega, ?_⟩⟩⟩, fun w3 => absurd w3 w⟩, fun w3 => absurd w3 (by decide)⟩
        rw [r1]
        exact ⟨fun z3 => ⟨1, 160, by omega, by omega, hadd 1 (by omega), hh 1 (by omega) q w2.symm z (fun y => y z2) ((nI_ltI (b := 8) (by omega) (by omega)).mp z3)⟩, fun z3 => ⟨by omega, by omega, xS (hf _ (by decide))⟩⟩
