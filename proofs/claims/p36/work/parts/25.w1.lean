/-! Calls that write: player, start, withdraw. -/
theorem kr_kr (K : KS) (a b : Nat) (f g : Nat → Int32) : kr (kr K a b f) a b g = kr K a b g := by
  funext x y
  unfold kr va_up
  by_cases h1 : x = a
  · by_cases h2 : y = b
    · simp [h1, h2]
    · simp [h1, h2]
  · simp [h1]
theorem kr_sw (K : KS) {a b a2 b2 : Nat} (f g : Nat → Int32) (h : ¬ (a = a2 ∧ b = b2)) : kr (kr K a b f) a2 b2 g = kr (kr K a2 b2 g) a b f := by
  funext x y
  unfold kr va_up
  by_cases h1 : x = a <;> by_cases h2 : x = a2 <;> by_cases h3 : y = b <;> by_cases h4 : y = b2 <;> simp_all
theorem kr_id (K : KS) (a b : Nat) : kr K a b (K a b) = K := by
  funext x y
  unfold kr va_up
  by_cases h1 : x = a
  · by_cases h2 : y = b
    · simp [h1, h2]
    · simp [h1, h2]
  · simp [h1]
-- k rows
theorem k_player {t np nc nd no : Nat} {sn : Nat → Nat} {K : KS} {G : Int32 → KS → Prop} {p1 p2 p3 : Int32} (ht : t < 512) (hI : V36 t np nc nd no sn K) (hf : ∀ v : Int32, v < 0 → G v K) (hK : np < 6 → 0 ≤ p1 → p1 ≤ 999 → ∀ K', V36 (t+1) (np+1) nc nd no sn K' → K' 0 2 0 = K 0 2 0 + p1 → K' 0 3 0 = K 0 3 0 → K' 10 0 = va_up (K 10 0) np p1 → G (nI np) K') : wpL_c0 G 1 6 K p1 p2 p3 := by
  obtain ⟨ns, P, r, cn, dp, ew, go, bl, sl, sk, M, ap, h⟩ := hI
  have np1 := rx_np1 h
  have np3 := rx_np3 h
  have hz : np < 6 → RR (t+1) (t+1) (np+1) nc nd no ns P r cn sn dp ew ew go bl sl sk (kPlayer K p1) (mPlayer M p1) ap := by
    intro hlt
    have hx := rr_up (Nat.le_succ t) (Nat.le_refl t) h
    obtain ⟨np1, np2, np3, nc1, nc2, nc3, nc4, nd1, nd2, nd3, nd4, no1, no2, no3, no4, ns1, ns2, ns3, lc0, lc1, lc2, lc3, l0, l1, l2, pl, sd, hs_, av, ab, c0, c1, c2, c3, c4, c6, c7, g1, g2, g3, g4, g5, g6, g7, g8, g9, d1, d2, d3, d4, d5, d6, dt, d7, d8, d9, d10, d11, d12, d13, d14, z0, n1, n0, n2, n5, n6, o1, o2, o3, o4, o5, o6, o7, ow, o8, o9⟩ := hx
    have eK : kPlayer K p1 10 0 = va_up (K 10 0) np p1 := by
      show va_up (K 10 0) (K 0 1 0).toNatClampNeg p1 = _
      rw [np1, nI_clamp (by omega)]
    have eM : mPlayer M p1 16 2 = va_up (M 16 2) np p1 := by
      show va_up (M 16 2) (M 3 1 0).toNatClampNeg p1 = _
      rw [np2, nI_clamp (by omega)]
    unfold RR
    refine ⟨?_, ?_, ?_, nc1, nc2, nc3, nc4, nd1, nd2, nd3, nd4, no1, no2, no3, no4, ns1, ns2, ns3, lc0, lc1, lc2, lc3, l0, l1, l2, ?_, ?_, hs_, av, ab, c0, c1, ?_, c3, c4, c6, c7, g1, g2, g3, g4, g5, g6, g7, ?_, ?_, ?_, d2, d3, d4, d5, d6, dt, d7, d8, d9, d10, d11, d12, d13, d14, z0, n1, n0, n2, n5, n6, o1, o2, o3, ?_, ?_, o6, o7, ow, o8, o9⟩
    · show K 0 1 0 + 1 = _
      rw [np1, nI_1]
    · show M 3 1 0 + 1 = _
      rw [np2, nI_1]
    · omega
    · intro p hp
      rw [eK, eM, up_if, up_if]
      by_cases c : p = np
      · rw [if_pos c, if_pos c]
      · rw [if_neg c, if_neg c]
        exact pl p (by omega)
    · show K 0 3 0 + K 0 4 0 + sumI (kPlayer K p1 10 0) (np + 1) = K 0 2 0 + p1
      rw [eK]
      show K 0 3 0 + K 0 4 0 + (sumI (va_up (K 10 0) np p1) np + va_up (K 10 0) np p1 np) = _
      rw [sumI_cong (g := K 10 0) (fun i hi => by rw [up_if, if_neg (by omega)]), up_if, if_pos rfl, ← sd]
      grind
    · intro c hc
      obtain ⟨a, p, b1, b2⟩ := c2 c hc
      exact ⟨a, p, by omega, b2⟩
    · show P + cntE (K 5 4) 98 no + 8 * (np + 1 + nd + sumN cn (2 * nd)) + 7 * nc ≤ 8 * (t + 1)
      omega
    · rcases g9 with q | q
      · exact Or.inl q
      · exact Or.inr (by show P + cntE (K 5 4) 98 no ≤ 7 * (t + 1); omega)
    · intro d hd
      obtain ⟨a1, a2, a, b, b1, b2, b3⟩ := d1 d hd
      exact ⟨a1, a2, a, b, by omega, by omega, b3⟩
    · intro k hk
      obtain ⟨a, p, b1, b2⟩ := o4 k hk
      exact ⟨a, p, by omega, b2⟩
    · intro k hk q
      obtain ⟨a1, a2, ⟨p, b1, b2⟩, a3⟩ := o5 k hk q
      exact ⟨a1, a2, ⟨p, by omega, b2⟩, a3⟩
  unfold wpL_c0 wpX6_player
  refine ⟨fun c => ⟨by omega, by omega, xA (hf _ (by decide))⟩, fun c => ⟨fun d => ⟨fun f => ?_, fun f => ⟨by omega, by omega, xS (hf _ (by decide))⟩⟩, fun d => ⟨by omega, by omega, xA (hf _ (by decide))⟩⟩⟩
  have hlt : np < 6 := by
    rw [np1] at f
    exact (nI_ltI (b := 6) (by omega) (by omega)).mp f
  refine ⟨by rw [np1]; exact vp_in_nI hlt (by omega), ?_⟩
  have e2 : kPlayer K p1 10 0 = va_up (K 10 0) np p1 := by
    show va_up (K 10 0) (K 0 1 0).toNatClampNeg p1 = _
    rw [np1, nI_clamp (by omega)]
  show G (K 0 1 0) (kPlayer K p1)
  rw [np1]
  exact hK hlt (Int32.not_lt.mp c) d (kPlayer K p1) ⟨ns, P, r, cn, dp, ew, go, bl, sl, sk, _, ap, hz hlt⟩ rfl rfl e2

theorem k_start {t np nc nd no : Nat} {sn : Nat → Nat} {K : KS} {G : Int32 → KS → Prop} {p1 p2 p3 : Int32} (ht : t < 512) (hI : V36 t np nc nd no sn K) (hf : ∀ v : Int32, v < 0 → G v K) (hK : ∀ v K', 0 ≤ v → V36 (t+1) np nc nd no sn K' → SM K K' → G v K') : wpL_c10 G 2 12 K p1 p2 p3 := by
  obtain ⟨ns, P, r, cn, dp, ew, go, bl, sl, sk, M, ap, h⟩ := hI
  have np1 := rx_np1 h
  have nd1 := rx_nd1 h
  have nd2 := rx_nd2 h
  have nd3 := rx_nd3 h
  have nd4 := rx_nd4 h
  have lc1 := rx_lc1 h
  have l1 := rx_l1 h
  have d2 := rx_d2 h
  have d7 := rx_d7 h
  unfold wpL_c10 wpX6_start
  refine ⟨1, 6, by omega, by omega, at_duel nd1 nd2 lc1 nd4 l1 (fun j hj e => ?_) (fun _ => ⟨by omega, by omega, xI (hf _ (by decide))⟩)⟩
  · subst e
    have hD : j < nD K := by rw [nD_of nd2 (by omega)]; exact hj
    obtain ⟨a1, a2, a3, a4, a5⟩ := d2 j hj
    obtain ⟨b1, b2, b3, b4⟩ := d7 (2 * j) (by omega)
    obtain ⟨c1_, c2_, c3_, c4_⟩ := d7 (2 * j + 1) (by omega)
    have hz : ew j = 0 ∧ go j = 0 → RR (t+1) (t+1) np nc nd no ns P r cn sn dp ew ew (va_up go j 1) bl sl sk (k3 (k3 K 6 2 j 103) 6 4 j 1) (k3 (k3 (k3 M 3 0 0 0) 13 16 j 103) 16 19 j 1) ap := by
      intro c
      have hx := rr_up (Nat.le_succ t) (Nat.le_succ t) h
      obtain ⟨np1, np2, np3, nc1, nc2, nc3, nc4, nd1, nd2, nd3, nd4, no1, no2, no3, no4, ns1, ns2, ns3, lc0, lc1, lc2, lc3, l0, l1, l2, pl, sd, hs_, av, ab, c0, c1, c2, c3, c4, c6, c7, g1, g2, g3, g4, g5, g6, g7, g8, g9, d1, d2, d3, d4, d5, d6, dt, d7, d8, d9, d10, d11, d12, d13, d14, z0, n1, n0, n2, n5, n6, o1, o2, o3, o4, o5, o6, o7, ow, o8, o9⟩ := hx
      have eg : ∀ d, va_up go j 1 d = if d = j then 1 else go d := fun _ => rfl
      unfold RR
      refine ⟨np1, np2, np3, nc1, nc2, nc3, nc4, nd1, nd2, nd3, nd4, no1, no2, no3, no4, ns1, ns2, ns3, lc0, lc1, lc2, lc3, l0, l1, l2, pl, sd, hs_, av, ab, c0, c1, c2, c3, c4, c6, c7, g1, g2, g3, g4, g5, g6, g7, g8, g9, d1, ?_, d3, d4, ?_, d6, dt, d7, d8, d9, ?_, d11, d12, d13, d14, z0, ?_, n0, n2, n5, n6, o1, o2, o3, o4, o5, o6, o7, ow, o8, o9⟩
      · intro d hd
        obtain ⟨f1, f2, f3, f4, f5⟩ := d2 d hd
        show k3 (k3 K 6 2 j 103) 6 4 j 1 6 2 d = k3 (k3 (k3 M 3 0 0 0) 13 16 j 103) 16 19 j 1 13 16 d ∧ k3 (k3 K 6 2 j 103) 6 4 j 1 6 2 d = _ ∧ _
        rw [show k3 (k3 K 6 2 j 103) 6 4 j 1 6 2 d = if d = j then 103 else K 6 2 d from rfl, show k3 (k3 (k3 M 3 0 0 0) 13 16 j 103) 16 19 j 1 13 16 d = if d = j then 103 else M 13 16 d from rfl, eg]
        by_cases q : d = j
        · rw [if_pos q, if_pos q, if_pos q, q, c.1]
          exact ⟨rfl, rfl, by omega, by omega, fun z => absurd rfl z⟩
        · rw [if_neg q, if_neg q, if_neg q]
          exact ⟨f1, f2, f3, f4, f5⟩
      · intro d hd q0
        obtain ⟨f1, f2, f3⟩ := d5 d hd q0
        refine ⟨f1, f2, fun q1 => ?_⟩
        show (if d = j then (1 : Int32) else K 6 4 d) = (if d = j then (1 : Int32) else M 16 19 d)
        by_cases q : d = j
        · rw [if_pos q, if_pos q]
        · rw [if_neg q, if_neg q]
          rw [eg, if_neg q] at q1
          exact f3 q1
      · intro d hd
        obtain ⟨f1, f2, f3, f4⟩ := d10 d hd
        refine ⟨f1, f2, f3, fun q1 => ?_⟩
        rw [eg] at q1
        by_cases q : d = j
        · subst q
          exact f4 (Or.inr c.2)
        · rw [if_neg q] at q1
          exact f4 q1
      · intro d hd
        obtain ⟨f1, f2, f3, f4⟩ := n1 d hd
        refine ⟨f1, f2, f3, fun q1 => ?_⟩
        rw [eg] at q1
        by_cases q : d = j
        · rw [if_pos q] at q1
          omega
        · rw [if_neg q] at q1
          exact f4 q1
    rw [a2, phv_111 a4, show (2 * j) + 4 = 2 * j + 4 from rfl, b1, c1_]
    refine ⟨hD, fun c => ⟨fun d => ⟨by omega, by omega, xS (hf _ (by decide))⟩, fun d => ⟨fun f => ?_, fun f => ⟨by omega, by omega, xS (hf _ (by decide))⟩⟩⟩, fun c => ⟨by omega, by omega, xU (hf _ (by decide))⟩⟩
    unfold wpX2_countStaked
    refine ⟨hD, ?_⟩
    refine hK _ _ ?_ ⟨ns, P, r, cn, dp, ew, _, bl, sl, sk, _, ap, hz c⟩ ⟨rfl, rfl, rfl⟩
    show (0 : Int32) ≤ K 8 2 (2 * j + 4) + K 8 2 (2 * j + 1 + 4)
    rw [b1, c1_, nI_add]
    exact nI_pos' (by omega)
