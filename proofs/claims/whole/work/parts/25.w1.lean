/-! Calls that write: player, start, withdraw. -/
theorem kr_kr (K : KS) (a b : Nat) (f g : Nat → Int32) : kr (kr K a b f) a b g = kr K a b g := by
  funext x y
  unfold kr va_up
  by_cases h1 : x = a
  · by_cases h2 : y = b
    · simp [h1, h2]
    · simp [h1, h2]
  · simp [h1]
theorem kr_sw (K : KS) {a b a2 b2 : Nat} (f g : Nat → Int32) (h : ¬ (a = a2 ∧ b = b2)) : kr (kr K a b f) a2 b2 g = kr (kr K a2 b2 g) a b f := by
  funext x y
  unfold kr va_up
  by_cases h1 : x = a <;> by_cases h2 : x = a2 <;> by_cases h3 : y = b <;> by_cases h4 : y = b2 <;> simp_all
theorem kr_id (K : KS) (a b : Nat) : kr K a b (K a b) = K := by
  funext x y
  unfold kr va_up
  by_cases h1 : x = a
  · by_cases h2 : y = b
    · simp [h1, h2]
    · simp [h1, h2]
  · simp [h1]
theorem c_player {t uc us : Nat} {K M : KS} {ap o : Int64} {od : UInt64} {p1 : Int32} (ht : t < 512) (hI : InvC t uc us K M ap) : st_player (InvC (t + 1)) uc us K M ap o od p1 := by
  obtain ⟨_, hu, hs, np, nc, nd, no, ns, P, r, cn, sn, dp, ew, go, bl, sl, sk, h⟩ := hI
  have hR := h
  obtain ⟨np1, np2, np3, nc1, nc2, nc3, nc4, nd1, nd2, nd3, nd4, no1, no2, no3, no4, ns1, ns2, ns3, lc0, lc1, lc2, lc3, l0, l1, l2, pl, sd, hs_, av, ab, c0, c1, c2, c3, c4, c6, c7, g1, g2, g3, g4, g5, g6, g7, g8, g9, d1, d2, d3, d4, d5, d6, dt, d7, d8, d9, d10, d11, d12, d13, d14, z0, n1, n0, n2, n5, n6, o1, o2, o3, o4, o5, o6, o7, ow, o8, o9⟩ := hR
  have hz : np < 6 → RR (t+1) (t+1) (np+1) nc nd no ns P r cn sn dp ew ew go bl sl sk (kPlayer K p1) (mPlayer M p1) ap := by
    intro hlt
    have hx := rr_up (Nat.le_succ t) (Nat.le_refl t) h
    obtain ⟨np1, np2, np3, nc1, nc2, nc3, nc4, nd1, nd2, nd3, nd4, no1, no2, no3, no4, ns1, ns2, ns3, lc0, lc1, lc2, lc3, l0, l1, l2, pl, sd, hs_, av, ab, c0, c1, c2, c3, c4, c6, c7, g1, g2, g3, g4, g5, g6, g7, g8, g9, d1, d2, d3, d4, d5, d6, dt, d7, d8, d9, d10, d11, d12, d13, d14, z0, n1, n0, n2, n5, n6, o1, o2, o3, o4, o5, o6, o7, ow, o8, o9⟩ := hx
    have eK : kPlayer K p1 10 0 = va_up (K 10 0) np p1 := by
      show va_up (K 10 0) (K 0 1 0).toNatClampNeg p1 = _
      rw [np1, nI_clamp (by omega)]
    have eM : mPlayer M p1 16 2 = va_up (M 16 2) np p1 := by
      show va_up (M 16 2) (M 3 1 0).toNatClampNeg p1 = _
      rw [np2, nI_clamp (by omega)]
    unfold RR
    refine ⟨?_, ?_, ?_, nc1, nc2, nc3, nc4, nd1, nd2, nd3, nd4, no1, no2, no3, no4, ns1, ns2, ns3, lc0, lc1, lc2, lc3, l0, l1, l2, ?_, ?_, hs_, av, ab, c0, c1, ?_, c3, c4, c6, c7, g1, g2, g3, g4, g5, g6, g7, ?_, ?_, ?_, d2, d3, d4, d5, d6, dt, d7, d8, d9, d10, d11, d12, d13, d14, z0, n1, n0, n2, n5, n6, o1, o2, o3, ?_, ?_, o6, o7, ow, o8, o9⟩
    · show K 0 1 0 + 1 = _
      rw [np1, nI_1]
    · show M 3 1 0 + 1 = _
      rw [np2, nI_1]
    · omega
    · intro p hp
      rw [eK, eM, up_if, up_if]
      by_cases c : p = np
      · rw [if_pos c, if_pos c]
      · rw [if_neg c, if_neg c]
        exact pl p (by omega)
    · show K 0 3 0 + K 0 4 0 + sumI (kPlayer K p1 10 0) (np + 1) = K 0 2 0 + p1
      rw [eK]
      show K 0 3 0 + K 0 4 0 + (sumI (va_up (K 10 0) np p1) np + va_up (K 10 0) np p1 np) = _
      rw [sumI_cong (g := K 10 0) (fun i hi => by rw [up_if, if_neg (by omega)]), up_if, if_pos rfl, ← sd]
      grind
    · intro c hc
      obtain ⟨a, p, b1, b2⟩ := c2 c hc
      exact ⟨a, p, by omega, b2⟩
    · show P + cntE (K 5 4) 98 no + 8 * (np + 1 + nd + sumN cn (2 * nd)) + 7 * nc ≤ 8 * (t + 1)
      omega
    · rcases g9 with q | q
      · exact Or.inl q
      · exact Or.inr (by show P + cntE (K 5 4) 98 no ≤ 7 * (t + 1); omega)
    · intro d hd
      obtain ⟨a1, a2, a, b, b1, b2, b3⟩ := d1 d hd
      exact ⟨a1, a2, a, b, by omega, by omega, b3⟩
    · intro k hk
      obtain ⟨a, p, b1, b2⟩ := o4 k hk
      exact ⟨a, p, by omega, b2⟩
    · intro k hk q
      obtain ⟨a1, a2, ⟨p, b1, b2⟩, a3⟩ := o5 k hk q
      exact ⟨a1, a2, ⟨p, by omega, b2⟩, a3⟩
  exact s_player np1 np2 np3 ⟨by omega, by omega⟩ (fun v => inv_rd2 0 v ht hu hs (by omega) (by omega) h) (fun hlt _ _ => inv_mk ht hu hs (by omega) (by omega) (hz hlt))
theorem c_start {t uc us : Nat} {K M : KS} {ap o : Int64} {od : UInt64} {p1 : Int32} (ht : t < 512) (hI : InvC t uc us K M ap) : st_start (InvC (t + 1)) uc us K M ap o od p1 := by
  obtain ⟨_, hu, hs, np, nc, nd, no, ns, P, r, cn, sn, dp, ew, go, bl, sl, sk, h⟩ := hI
  have hR := h
  obtain ⟨np1, np2, np3, nc1, nc2, nc3, nc4, nd1, nd2, nd3, nd4, no1, no2, no3, no4, ns1, ns2, ns3, lc0, lc1, lc2, lc3, l0, l1, l2, pl, sd, hs_, av, ab, c0, c1, c2, c3, c4, c6, c7, g1, g2, g3, g4, g5, g6, g7, g8, g9, d1, d2, d3, d4, d5, d6, dt, d7, d8, d9, d10, d11, d12, d13, d14, z0, n1, n0, n2, n5, n6, o1, o2, o3, o4, o5, o6, o7, ow, o8, o9⟩ := hR
  have mx : ¬ (0 ≤ p1 ∧ p1 < nI nd) → ∀ {post : Int32 → KS → Int64 → Prop}, post 0 (k3 (k3 M 3 0 0 0) 3 0 0 1) ap → wpX7_start post M ap p1 := by
    intro z post hp
    unfold wpX7_start
    refine ms_duel (n := nd) nd3 nd4 (fun j hj e => absurd (by rw [e]; exact in_nI hj (by omega)) z) (fun _ => ⟨fun q => absurd rfl q, fun _ => ?_⟩)
    unfold wpX7_fails
    exact hp
  unfold st_start wpL_start wpX6_start
  refine ⟨2, 12, by omega, by omega, 1, 6, by omega, by omega, at_duel nd1 nd2 lc1 nd4 l1 (fun j hj e => ?_) (fun z => ⟨by omega, by omega, Or.inl ⟨rfl, mx z ?_⟩⟩)⟩
  · subst e
    have hD : j < nD K := by rw [nD_of nd2 (by omega)]; exact hj
    obtain ⟨a1, a2, a3, a4, a5⟩ := d2 j hj
    have e0 : (2 : Int32) * nI j = nI (2 * j) := nI_mul 2 j
    have e1 : (2 : Int32) * nI j + 1 = nI (2 * j + 1) := by rw [← nI_add, ← nI_mul]; rfl
    have e9 : (k3 M 3 0 0 0) 13 16 (nI j).toNatClampNeg = phv (ew j) (go j) := by rw [nI_clamp (by omega)]; exact a1.symm.trans a2
    obtain ⟨b1, b2, b3, b4⟩ := d7 (2 * j) (by omega)
    obtain ⟨c1_, c2_, c3_, c4_⟩ := d7 (2 * j + 1) (by omega)
    have e5 : (k3 M 3 0 0 0) 16 21 ((2 : Int32) * nI j).toNatClampNeg = nI (cn (2 * j)) := by rw [e0, nI_clamp (by omega)]; exact b2
    have e6 : (k3 M 3 0 0 0) 16 21 ((2 : Int32) * nI j + 1).toNatClampNeg = nI (cn (2 * j + 1)) := by rw [e1, nI_clamp (by omega)]; exact c2_
    have mz : ∀ n : Nat, n ≤ 8 → (nI n = 0 ↔ n = 0) := fun n hn => nI_eq (a := n) (b := 0) (by omega) (by omega)
    have bad : ∀ v : Int32, (v = 2 ∧ ¬ (ew j = 0 ∧ go j = 0) ∨ v = 3 ∧ (ew j = 0 ∧ go j = 0) ∧ (cn (2 * j) = 0 ∨ cn (2 * j + 1) = 0)) → ∀ {post : Int32 → KS → Int64 → Prop}, post 0 (k3 (k3 M 3 0 0 0) 3 0 0 v) ap → wpX7_start post M ap (nI j) := by
      intro v z post hp
      unfold wpX7_start
      refine ms_duel (n := nd) nd3 nd4 (fun _ _ _ => ⟨fun _ => ⟨vp_in_nI (by omega) (by omega), ?_⟩, fun q => absurd q (by decide)⟩) (fun z => absurd (in_nI hj (by omega)) z)
      rw [e9, phv_111 a4, e5, e6, mz _ b3, mz _ c3_, e1, e0]
      unfold wpX7_fails
      rcases z with ⟨rfl, z⟩ | ⟨rfl, z1, z2⟩
      · exact ⟨fun q => absurd q z, fun _ => hp⟩
      · exact ⟨fun _ => ⟨vp_in_nI (by omega) (by omega), fun _ => hp, fun q => ⟨vp_in_nI (by omega) (by omega), fun q2 => by omega, fun _ => hp⟩⟩, fun q => absurd z1 q⟩
    have hz : ew j = 0 ∧ go j = 0 → RR (t+1) (t+1) np nc nd no ns P r cn sn dp ew ew (va_up go j 1) bl sl sk (k3 (k3 K 6 2 j 103) 6 4 j 1) (k3 (k3 (k3 M 3 0 0 0) 13 16 j 103) 16 19 j 1) ap := by
      intro c
      have hx := rr_up (Nat.le_succ t) (Nat.le_succ t) h
      obtain ⟨np1, np2, np3, nc1, nc2, nc3, nc4, nd1, nd2, nd3, nd4, no1, no2, no3, no4, ns1, ns2, ns3, lc0, lc1, lc2, lc3, l0, l1, l2, pl, sd, hs_, av, ab, c0, c1, c2, c3, c4, c6, c7, g1, g2, g3, g4, g5, g6, g7, g8, g9, d1, d2, d3, d4, d5, d6, dt, d7, d8, d9, d10, d11, d12, d13, d14, z0, n1, n0, n2, n5, n6, o1, o2, o3, o4, o5, o6, o7, ow, o8, o9⟩ := hx
      have eg : ∀ d, va_up go j 1 d = if d = j then 1 else go d := fun _ => rfl
      unfold RR
      refine ⟨np1, np2, np3, nc1, nc2, nc3, nc4, nd1, nd2, nd3, nd4, no1, no2, no3, no4, ns1, ns2, ns3, lc0, lc1, lc2, lc3, l0, l1, l2, pl, sd, hs_, av, ab, c0, c1, c2, c3, c4, c6, c7, g1, g2, g3, g4, g5, g6, g7, g8, g9, d1, ?_, d3, d4, ?_, d6, dt, d7, d8, d9, ?_, d11, d12, d13, d14, z0, ?_, n0, n2, n5, n6, o1, o2, o3, o4, o5, o6, o7, ow, o8, o9⟩
      · intro d hd
        obtain ⟨f1, f2, f3, f4, f5⟩ := d2 d hd
        show k3 (k3 K 6 2 j 103) 6 4 j 1 6 2 d = k3 (k3 (k3 M 3 0 0 0) 13 16 j 103) 16 19 j 1 13 16 d ∧ k3 (k3 K 6 2 j 103) 6 4 j 1 6 2 d = _ ∧ _
        rw [show k3 (k3 K 6 2 j 103) 6 4 j 1 6 2 d = if d = j then 103 else K 6 2 d from rfl, show k3 (k3 (k3 M 3 0 0 0) 13 16 j 103) 16 19 j 1 13 16 d = if d = j then 103 else M 13 16 d from rfl, eg]
        by_cases q : d = j
        · rw [if_pos q, if_pos q, if_pos q, q, c.1]
          exact ⟨rfl, rfl, by omega, by omega, fun z => absurd rfl z⟩
        · rw [if_neg q, if_neg q, if_neg q]
          exact ⟨f1, f2, f3, f4, f5⟩
      · intro d hd q0
        obtain ⟨f1, f2, f3⟩ := d5 d hd q0
        refine ⟨f1, f2, fun q1 => ?_⟩
        show (if d = j then (1 : Int32) else K 6 4 d) = (if d = j then (1 : Int32) else M 16 19 d)
        by_cases q : d = j
        · rw [if_pos q, if_pos q]
        · rw [if_neg q, if_neg q]
          rw [eg, if_neg q] at q1
          exact f3 q1
      · intro d hd
        obtain ⟨f1, f2, f3, f4⟩ := d10 d hd
        refine ⟨f1, f2, f3, fun q1 => ?_⟩
        rw [eg] at q1
        by_cases q : d = j
        · subst q
          exact f4 (Or.inr c.2)
        · rw [if_neg q] at q1
          exact f4 q1
      · intro d hd
        obtain ⟨f1, f2, f3, f4⟩ := n1 d hd
        refine ⟨f1, f2, f3, fun q1 => ?_⟩
        rw [eg] at q1
        by_cases q : d = j
        · rw [if_pos q] at q1
          omega
        · rw [if_neg q] at q1
          exact f4 q1
    rw [a2, phv_111 a4, show (2 * j) + 4 = 2 * j + 4 from rfl, b1, c1_]
    refine ⟨hD, fun c => ⟨fun d => ⟨by omega, by omega, Or.inr (Or.inr ⟨rfl, bad 3 (Or.inr ⟨rfl, c, Or.inl ?_⟩) ?_⟩)⟩, fun d => ⟨fun f => ?_, fun f => ⟨by omega, by omega, Or.inr (Or.inr ⟨rfl, bad 3 (Or.inr ⟨rfl, c, Or.inr ?_⟩) ?_⟩)⟩⟩⟩, fun c => ⟨by omega, by omega, Or.inr (Or.inl ⟨rfl, bad 2 (Or.inl ⟨rfl, c⟩) ?_⟩)⟩⟩
    · rcases (by omega : cn (2 * j) = 0 ∨ 0 < cn (2 * j)) with q | q
      · exact q
      · rw [if_neg (nI_ne0 q (by omega))] at d
        exact absurd rfl d
    · unfold wpX7_thrown
      exact ⟨rfl, fun q => absurd q (by decide), inv_rd2 0 3 ht hu hs (by omega) (by omega) h⟩
    · have n0_ : 0 < cn (2 * j) := by
        rcases (by omega : cn (2 * j) = 0 ∨ 0 < cn (2 * j)) with q | q
        · rw [q, if_pos (show nI 0 = 0 from rfl)] at d
          exact absurd d (by decide)
        · exact q
      have n1_ : 0 < cn (2 * j + 1) := by
        rcases (by omega : cn (2 * j + 1) = 0 ∨ 0 < cn (2 * j + 1)) with q | q
        · rw [q, if_pos (show nI 0 = 0 from rfl)] at f
          exact absurd f (by decide)
        · exact q
      unfold wpX2_countStaked
      refine ⟨hD, ?_⟩
      unfold wpX7_start
      refine ms_duel (n := nd) nd3 nd4 (fun _ _ _ => ⟨fun _ => ⟨vp_in_nI (by omega) (by omega), ?_⟩, fun q => absurd q (by decide)⟩) (fun z => absurd (in_nI hj (by omega)) z)
      rw [e9, phv_111 a4, e5, e6, mz _ b3, mz _ c3_]
      refine ⟨fun _ => ⟨by rw [e0]; exact vp_in_nI (by omega) (by omega), fun q => absurd q (by omega), fun _ => ⟨by rw [e1]; exact vp_in_nI (by omega) (by omega), fun _ => ⟨vp_in_nI (by omega) (by omega), ?_⟩, fun q => absurd q (by omega)⟩⟩, fun q => absurd c q⟩
      unfold wpX7_thrown
      refine ⟨rfl, fun _ => ?_, ?_⟩
      · show (K 8 2 (2 * j + 4) + K 8 2 (2 * j + 1 + 4)).toInt64 = ((k3 M 3 0 0 0) 16 21 ((2 : Int32) * nI j).toNatClampNeg + (k3 M 3 0 0 0) 16 21 ((2 : Int32) * nI j + 1).toNatClampNeg).toInt64
        rw [e5, e6, b1, c1_]
      · rw [nI_clamp (by omega)]
        exact inv_mk ht hu hs (by omega) (by omega) (hz c)
    · rcases (by omega : cn (2 * j + 1) = 0 ∨ 0 < cn (2 * j + 1)) with q | q
      · exact q
      · rw [if_neg (nI_ne0 q (by omega))] at f
        exact absurd rfl f
    · unfold wpX7_thrown
      exact ⟨rfl, fun q => absurd q (by decide), inv_rd2 0 3 ht hu hs (by omega) (by omega) h⟩
    · unfold wpX7_thrown
      exact ⟨rfl, fun q => absurd q (by decide), inv_rd2 0 2 ht hu hs (by omega) (by omega) h⟩
  · unfold wpX7_thrown
    exact ⟨rfl, fun q => absurd q (by decide), inv_rd2 0 1 ht hu hs (by omega) (by omega) h⟩
