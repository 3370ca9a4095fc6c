/-! More calls that only read. -/
theorem nI_inN {n : Nat} {p1 : Int32} (hn : n < 2 ^ 31) (h0 : 0 ≤ p1) (h1 : p1 < nI n) : ∃ j : Nat, j < n ∧ p1 = nI j := by
  obtain ⟨j, hj, rfl⟩ := nI_of (Int32.not_lt.mpr h0)
  exact ⟨j, (nI_ltI hj hn).mp h1, rfl⟩
theorem md_in0 {post : Int32 → Prop} {M : KS} {ap : Int64} {p1 N : Int32} {n : Nat} (hn : N = nI n) (hn2 : n < 10000) (h1 : 0 ≤ p1 ∧ p1 < nI n → post 1) (h0 : ¬ (0 ≤ p1 ∧ p1 < nI n) → post 0) : wpX7_in post M ap p1 0 (N - 1) := by
  have key : N - 1 < p1 ↔ ¬ p1 < nI n := by
    rw [hn, Int32.lt_iff_toInt_lt, Int32.lt_iff_toInt_lt, Int32.toInt_sub, nI_toInt (by omega), show (1 : Int32).toInt = 1 from rfl, Int.bmod_eq_of_le (by omega) (by omega)]
    omega
  unfold wpX7_in
  exact ⟨fun c => h0 (fun z => Int32.not_le.mpr c z.1), fun c => ⟨fun d => h0 (fun z => key.mp d z.2), fun d => h1 ⟨Int32.not_lt.mp c, Classical.byContradiction fun z => d (key.mpr z)⟩⟩⟩
theorem mb_in0 {post : Int32 → Prop} {M : KS} {ap : Int64} {p1 N : Int32} {n : Nat} (hn : N = nI n) (hn2 : n < 10000) (h1 : 0 ≤ p1 ∧ p1 < nI n → post 1) (h0 : ¬ (0 ≤ p1 ∧ p1 < nI n) → post 0) : wpX7_in (fun r1 => (narrow .boolean (.int r1) = .int r1) ∧ post r1) M ap p1 0 (N - 1) :=
  md_in0 hn hn2 (fun z => ⟨rfl, h1 z⟩) (fun z => ⟨rfl, h0 z⟩)
/-- the reference's tests of numbers, by cases -/
theorem ms_player {post : Int32 → Prop} {M : KS} {ap : Int64} {p1 : Int32} {n : Nat} (hn : M 3 1 0 = nI n) (hn2 : n ≤ 6) (h1 : ∀ j, j < n → p1 = nI j → post 1) (h0 : ¬ (0 ≤ p1 ∧ p1 < nI n) → post 0) : wpX7_isPlayer post M ap p1 :=
  mb_in0 hn (by omega) (fun z => by obtain ⟨j, hj, e⟩ := nI_inN (by omega) z.1 z.2; exact h1 j hj e) h0
theorem ms_card {post : Int32 → Prop} {M : KS} {ap : Int64} {p1 : Int32} {n : Nat} (hn : M 3 5 0 = nI n) (hn2 : n ≤ 40) (h1 : ∀ j, j < n → p1 = nI j → post 1) (h0 : ¬ (0 ≤ p1 ∧ p1 < nI n) → post 0) : wpX7_isCard post M ap p1 :=
  mb_in0 hn (by omega) (fun z => by obtain ⟨j, hj, e⟩ := nI_inN (by omega) z.1 z.2; exact h1 j hj e) h0
theorem ms_duel {post : Int32 → Prop} {M : KS} {ap : Int64} {p1 : Int32} {n : Nat} (hn : M 3 13 0 = nI n) (hn2 : n ≤ 8) (h1 : ∀ j, j < n → p1 = nI j → post 1) (h0 : ¬ (0 ≤ p1 ∧ p1 < nI n) → post 0) : wpX7_isDuel post M ap p1 :=
  mb_in0 hn (by omega) (fun z => by obtain ⟨j, hj, e⟩ := nI_inN (by omega) z.1 z.2; exact h1 j hj e) h0
theorem ms_offer {post : Int32 → Prop} {M : KS} {ap : Int64} {p1 : Int32} {n : Nat} (hn : M 3 29 0 = nI n) (hn2 : n ≤ 60) (h1 : ∀ j, j < n → p1 = nI j → post 1) (h0 : ¬ (0 ≤ p1 ∧ p1 < nI n) → post 0) : wpX7_isOffer post M ap p1 :=
  mb_in0 hn (by omega) (fun z => by obtain ⟨j, hj, e⟩ := nI_inN (by omega) z.1 z.2; exact h1 j hj e) h0
theorem ms_snap {post : Int32 → Prop} {M : KS} {ap : Int64} {p1 p2 : Int32} {n : Nat} {sn : Nat → Nat} (hn : M 3 13 0 = nI n) (hn2 : n ≤ 8) (hs : ∀ d, d < 8 → M 16 26 d = nI (sn d)) (hs2 : ∀ d, d < 8 → sn d ≤ 6) (h1 : ∀ d s, d < n → s < sn d → p1 = nI d → p2 = nI s → post 1) (h0 : (∀ d s, d < n → s < sn d → p1 = nI d → ¬ p2 = nI s) → post 0) : wpX7_isSnapshot post M ap p1 p2 := by
  unfold wpX7_isSnapshot
  refine ms_duel hn hn2 (fun d hd e => ⟨fun q => absurd q (by decide), fun _ => ⟨by rw [e]; exact vp_in_nI (by omega) (by omega), ?_⟩⟩) (fun z => ⟨fun _ => h0 (fun d s hd _ e _ => z (by rw [e]; exact in_nI hd (by omega))), fun q => absurd rfl q⟩)
  have e2 : M 16 26 p1.toNatClampNeg = nI (sn d) := by rw [e, nI_clamp (by omega)]; exact hs d (by omega)
  have := hs2 d (by omega)
  refine md_in0 e2 (by omega) (fun z => ⟨fun q => absurd q (by decide), fun _ => ?_⟩) (fun z => ⟨fun _ => ?_, fun q => absurd rfl q⟩)
  · obtain ⟨s, hs3, e3⟩ := nI_inN (by omega) z.1 z.2
    exact h1 d s hd hs3 e e3
  · refine h0 (fun d2 s hd2 hs3 e3 e4 => z ?_)
    have : d2 = d := (nI_eq (by omega) (by omega)).mp (e3.symm.trans e)
    subst this
    rw [e4]
    exact in_nI hs3 (by omega)
theorem m_posting {post : Int32 → KS → Int64 → Prop} {M : KS} {ap : Int64} {j P : Nat} {p2 : Int32} (h : M 3 11 0 = nI P) (hP : P ≤ 3994) (hj : j < P) (a : p2 = 99 → post (M 16 12 (3 * j)) (k3 M 3 0 0 0) ap) (b : p2 = 102 → post (M 16 12 (3 * j + 1)) (k3 M 3 0 0 0) ap) (c : ¬ p2 = 99 → ¬ p2 = 102 → p2 = 116 → post (M 16 12 (3 * j + 2)) (k3 M 3 0 0 0) ap) (d : ¬ p2 = 99 → ¬ p2 = 102 → ¬ p2 = 116 → post 0 (k3 (k3 M 3 0 0 0) 3 0 0 2) ap) : wpX7_posting post M ap (nI j) p2 := by
  have e0 : (3 : Int32) * nI j + 0 = nI (3 * j) := by rw [Int32.add_zero]; exact nI_mul 3 j
  have e1 : (3 : Int32) * nI j + 1 = nI (3 * j + 1) := by rw [← nI_add, ← nI_mul]; rfl
  have e2 : (3 : Int32) * nI j + 2 = nI (3 * j + 2) := by rw [← nI_add, ← nI_mul]; rfl
  have w : (p2 = 99 ∨ p2 = 102 ∨ p2 = 116) → wX7_posting_49 post (nI j) p2 (k3 M 3 0 0 0) ap := by
    intro z
    unfold wX7_posting_49
    rw [e0, e1, e2]
    refine ⟨fun q => ⟨fun q2 => ⟨vp_in_nI (by omega) (by omega), ?_⟩, fun q2 => ⟨vp_in_nI (by omega) (by omega), ?_⟩⟩, fun q => ⟨vp_in_nI (by omega) (by omega), ?_⟩⟩
    · rw [nI_clamp (by omega)]
      rcases z with z | z | z
      · exact absurd z q
      · exact absurd z q2
      · exact c q q2 z
    · rw [nI_clamp (by omega)]
      exact b q2
    · rw [nI_clamp (by omega)]
      exact a q
  unfold wpX7_posting
  refine md_in0 (n := P) h (by omega) (fun _ => ?_) (fun z => absurd (in_nI hj (by omega)) z)
  refine ⟨fun _ => ⟨fun q => w (Or.inl q), fun q1 => ⟨fun q => w (Or.inr (Or.inl q)), fun q2 => ⟨fun q => w (Or.inr (Or.inr q)), fun q3 => ?_⟩⟩⟩, fun q => absurd q (by decide)⟩
  unfold wpX7_fails
  exact d q1 q2 q3
theorem c_posting {t uc us : Nat} {K M : KS} {ap o : Int64} {od : UInt64} {p1 p2 : Int32} (ht : t < 512) (hI : InvC t uc us K M ap) : st_posting (InvC (t + 1)) uc us K M ap o od p1 p2 := by
  obtain ⟨_, hu, hs, np, nc, nd, no, ns, P, r, cn, sn, dp, ew, go, bl, sl, sk, h⟩ := hI
  have hR := h
  obtain ⟨np1, np2, np3, nc1, nc2, nc3, nc4, nd1, nd2, nd3, nd4, no1, no2, no3, no4, ns1, ns2, ns3, lc0, lc1, lc2, lc3, l0, l1, l2, pl, sd, hs_, av, ab, c0, c1, c2, c3, c4, c6, c7, g1, g2, g3, g4, g5, g6, g7, g8, g9, d1, d2, d3, d4, d5, d6, dt, d7, d8, d9, d10, d11, d12, d13, d14, z0, n1, n0, n2, n5, n6, o1, o2, o3, o4, o5, o6, o7, ow, o8, o9⟩ := hR
  have hP := rr_P h (by omega)
  have hr := rOK_le g4
  have mx : ¬ (0 ≤ p1 ∧ p1 < nI P) → ∀ {post : Int32 → KS → Int64 → Prop}, post 0 (k3 (k3 M 3 0 0 0) 3 0 0 1) ap → wpX7_posting post M ap p1 p2 := by
    intro z post hp
    unfold wpX7_posting
    refine md_in0 (n := P) g2 (by omega) (fun z2 => absurd z2 z) (fun _ => ⟨fun q => absurd rfl q, fun _ => ?_⟩)
    unfold wpX7_fails
    exact hp
  unfold st_posting wpL_posting wpX6_posting
  refine ⟨1, 6, by omega, by omega, fun c => ⟨by omega, by omega, Or.inl ⟨rfl, ?_⟩⟩, fun c => ⟨fun d => ?_, fun d => ⟨by omega, by omega, Or.inl ⟨rfl, ?_⟩⟩⟩⟩
  · refine mx (fun z => Int32.not_le.mpr c z.1) ?_
    unfold wpX7_thrown
    exact ⟨rfl, fun q => absurd q (by decide), inv_rd2 0 1 ht hu hs (by omega) (by omega) h⟩
  · rw [g1] at d
    obtain ⟨j, hj, rfl⟩ := nI_inN (by omega) (Int32.not_lt.mp c) d
    have e0 : (3 : Int32) * nI j = nI (3 * j) := nI_mul 3 j
    have e1 : (3 : Int32) * nI j + 1 = nI (3 * j + 1) := by rw [← nI_add, ← nI_mul]; rfl
    have e2 : (3 : Int32) * nI j + 2 = nI (3 * j + 2) := by rw [← nI_add, ← nI_mul]; rfl
    unfold wpX3_takerIn wpX3_giverIn wpX3_cardIn
    rw [e1, e2, e0]
    refine ⟨fun q1 => ⟨fun q2 => ⟨fun q3 => ⟨by omega, by omega, Or.inr ⟨rfl, ?_⟩⟩, fun q3 => na_ok g3 hr.2 (by omega) ?_⟩, fun q2 => na_ok g3 hr.2 (by omega) ?_⟩, fun q1 => na_ok g3 hr.2 (by omega) ?_⟩
    · refine m_posting g2 hP hj (fun z => absurd z q1) (fun z => absurd z q2) (fun _ _ z => absurd z q3) (fun _ _ _ => ?_)
      unfold wpX7_thrown
      exact ⟨rfl, fun q => absurd q (by decide), inv_rd2 0 2 ht hu hs (by omega) (by omega) h⟩
    · refine m_posting g2 hP hj (fun z => absurd z q1) (fun z => absurd z q2) (fun _ _ _ => ?_) (fun _ _ z => absurd q3 z)
      unfold wpX7_thrown
      exact ⟨rfl, fun _ => by rw [g6 _ (by omega)], inv_rd 0 ht hu hs (by omega) (by omega) h⟩
    · refine m_posting g2 hP hj (fun z => absurd z q1) (fun z => ?_) (fun _ z => absurd q2 z) (fun _ z => absurd q2 z)
      unfold wpX7_thrown
      exact ⟨rfl, fun _ => by rw [g6 _ (by omega)], inv_rd 0 ht hu hs (by omega) (by omega) h⟩
    · refine m_posting g2 hP hj (fun z => ?_) (fun z => ?_) (fun z => absurd q1 z) (fun z => absurd q1 z)
      · unfold wpX7_thrown
        exact ⟨rfl, fun _ => by rw [g6 _ (by omega)], inv_rd 0 ht hu hs (by omega) (by omega) h⟩
      · exact absurd (q1.symm.trans z) (by decide)
  · rw [g1] at d
    refine mx (fun z => d z.2) ?_
    unfold wpX7_thrown
    exact ⟨rfl, fun q => absurd q (by decide), inv_rd2 0 1 ht hu hs (by omega) (by omega) h⟩
theorem c_life {t uc us : Nat} {K M : KS} {ap o : Int64} {od : UInt64} {p1 p2 : Int32} (ht : t < 512) (hI : InvC t uc us K M ap) : st_life (InvC (t + 1)) uc us K M ap o od p1 p2 := by
  obtain ⟨_, hu, hs, np, nc, nd, no, ns, P, r, cn, sn, dp, ew, go, bl, sl, sk, h⟩ := hI
  have hR := h
  obtain ⟨np1, np2, np3, nc1, nc2, nc3, nc4, nd1, nd2, nd3, nd4, no1, no2, no3, no4, ns1, ns2, ns3, lc0, lc1, lc2, lc3, l0, l1, l2, pl, sd, hs_, av, ab, c0, c1, c2, c3, c4, c6, c7, g1, g2, g3, g4, g5, g6, g7, g8, g9, d1, d2, d3, d4, d5, d6, dt, d7, d8, d9, d10, d11, d12, d13, d14, z0, n1, n0, n2, n5, n6, o1, o2, o3, o4, o5, o6, o7, ow, o8, o9⟩ := hR
  unfold st_life wpL_life wpX6_life
  refine ⟨1, 6, by omega, by omega, 1, 6, by omega, by omega, at_duel nd1 nd2 lc1 nd4 l1 (fun j hj e => ?_) (fun z => ⟨by omega, by omega, rfl, ?_⟩)⟩
  · subst e
    have e0 : (2 : Int32) * nI j + 0 = nI (2 * j) := by rw [Int32.add_zero]; exact nI_mul 2 j
    have e1 : (2 : Int32) * nI j + 1 = nI (2 * j + 1) := by rw [← nI_add, ← nI_mul]; rfl
    refine ⟨fun q => ⟨by rw [nD_of nd2 (by omega)]; exact hj, ?_⟩, fun q => ⟨by rw [nD_of nd2 (by omega)]; exact hj, ?_⟩⟩
    · unfold wpX7_life
      refine ms_duel (n := nd) nd3 nd4 (fun _ _ _ => ⟨fun q => absurd q (by decide), fun _ => ⟨fun _ => ?_, fun z => absurd q z⟩⟩) (fun z => absurd (in_nI hj (by omega)) z)
      rw [e0, nI_clamp (by omega)]
      unfold wpX7_thrown
      exact ⟨vp_in_nI (by omega) (by omega), rfl, fun _ => congrArg _ (d3 (2 * j) (by omega)), inv_rd 0 ht hu hs (by omega) (by omega) h⟩
    · unfold wpX7_life
      refine ms_duel (n := nd) nd3 nd4 (fun _ _ _ => ⟨fun q => absurd q (by decide), fun _ => ⟨fun z => absurd z q, fun _ => ?_⟩⟩) (fun z => absurd (in_nI hj (by omega)) z)
      rw [e1, nI_clamp (by omega)]
      unfold wpX7_thrown
      exact ⟨vp_in_nI (by omega) (by omega), rfl, fun _ => congrArg _ (d3 (2 * j + 1) (by omega)), inv_rd 0 ht hu hs (by omega) (by omega) h⟩
  · unfold wpX7_life
    refine ms_duel (n := nd) nd3 nd4 (fun j hj e => absurd (by rw [e]; exact in_nI hj (by omega)) z) (fun _ => ⟨fun _ => ?_, fun q => absurd rfl q⟩)
    unfold wpX7_fails wpX7_thrown
    exact ⟨rfl, fun q => absurd q (by decide), inv_rd2 0 1 ht hu hs (by omega) (by omega) h⟩
theorem c_winner {t uc us : Nat} {K M : KS} {ap o : Int64} {od : UInt64} {p1 : Int32} (ht : t < 512) (hI : InvC t uc us K M ap) : st_winner (InvC (t + 1)) uc us K M ap o od p1 := by
  obtain ⟨_, hu, hs, np, nc, nd, no, ns, P, r, cn, sn, dp, ew, go, bl, sl, sk, h⟩ := hI
  have hR := h
  obtain ⟨np1, np2, np3, nc1, nc2, nc3, nc4, nd1, nd2, nd3, nd4, no1, no2, no3, no4, ns1, ns2, ns3, lc0, lc1, lc2, lc3, l0, l1, l2, pl, sd, hs_, av, ab, c0, c1, c2, c3, c4, c6, c7, g1, g2, g3, g4, g5, g6, g7, g8, g9, d1, d2, d3, d4, d5, d6, dt, d7, d8, d9, d10, d11, d12, d13, d14, z0, n1, n0, n2, n5, n6, o1, o2, o3, o4, o5, o6, o7, ow, o8, o9⟩ := hR
  unfold st_winner wpL_winner wpX6_winner
  refine ⟨2, 12, by omega, by omega, 1, 6, by omega, by omega, at_duel nd1 nd2 lc1 nd4 l1 (fun j hj e => ?_) (fun z => ⟨by omega, by omega, Or.inl ⟨rfl, ?_⟩⟩)⟩
  · subst e
    have hD : j < nD K := by rw [nD_of nd2 (by omega)]; exact hj
    obtain ⟨a1, a2, a3, a4, a5⟩ := d2 j hj
    have e9 : (k3 M 3 0 0 0) 13 16 (nI j).toNatClampNeg = phv (ew j) (go j) := by rw [nI_clamp (by omega)]; exact a1.symm.trans a2
    unfold wpX2_hasNotEnded
    rw [a2]
    have up : ew j = 0 → ∀ {post : Int32 → KS → Int64 → Prop}, post 0 (k3 (k3 M 3 0 0 0) 3 0 0 2) ap → wpX7_winner post M ap (nI j) := by
      intro q post hp
      unfold wpX7_winner
      refine ms_duel (n := nd) nd3 nd4 (fun _ _ _ => ⟨fun _ => ⟨vp_in_nI (by omega) (by omega), ?_⟩, fun q => absurd q (by decide)⟩) (fun z => absurd (in_nI hj (by omega)) z)
      rw [e9, phv_101 a4, phv_102 a4]
      unfold wpX7_fails
      exact ⟨fun z => absurd z (by omega), fun _ => ⟨fun _ => hp, fun z => absurd z (by omega)⟩⟩
    have dn : ew j ≠ 0 → ∀ {post : Int32 → KS → Int64 → Prop}, post (M 16 17 j) (k3 M 3 0 0 0) ap → wpX7_winner post M ap (nI j) := by
      intro q post hp
      have hp2 : post ((k3 M 3 0 0 0) 16 17 (nI j).toNatClampNeg) (k3 M 3 0 0 0) ap := by rw [nI_clamp (by omega)]; exact hp
      unfold wpX7_winner
      refine ms_duel (n := nd) nd3 nd4 (fun _ _ _ => ⟨fun _ => ⟨vp_in_nI (by omega) (by omega), ?_⟩, fun q => absurd q (by decide)⟩) (fun z => absurd (in_nI hj (by omega)) z)
      rw [e9, phv_101 a4, phv_102 a4]
      exact ⟨fun _ => ⟨vp_in_nI (by omega) (by omega), hp2⟩, fun _ => ⟨fun z => absurd (by omega) z, fun _ => ⟨vp_in_nI (by omega) (by omega), hp2⟩⟩⟩
    rw [phv_111 a4, phv_103 a4]
    refine ⟨hD, hD, fun c => ⟨fun q => absurd q (by decide), fun _ => ⟨by omega, by omega, Or.inr ⟨rfl, up c.1 ?_⟩⟩⟩, fun c => ⟨fun c2 => ⟨fun _ => ?_, fun q => absurd rfl q⟩, fun c2 => ⟨fun q => absurd q (by decide), fun _ => ⟨by omega, by omega, Or.inr ⟨rfl, up c2.1 ?_⟩⟩⟩⟩⟩
    · unfold wpX7_thrown
      exact ⟨rfl, fun q => absurd q (by decide), inv_rd2 0 2 ht hu hs (by omega) (by omega) h⟩
    · have hne : ew j ≠ 0 := fun q => by
        rcases (by omega : go j = 0 ∨ go j = 1) with g | g
        · exact c ⟨q, g⟩
        · exact c2 ⟨q, g⟩
      refine dn hne ?_
      unfold wpX7_thrown
      exact ⟨rfl, fun _ => by rw [(d4 j hj hne).1], inv_rd 0 ht hu hs (by omega) (by omega) h⟩
    · unfold wpX7_thrown
      exact ⟨rfl, fun q => absurd q (by decide), inv_rd2 0 2 ht hu hs (by omega) (by omega) h⟩
  · unfold wpX7_winner
    refine ms_duel (n := nd) nd3 nd4 (fun j hj e => absurd (by rw [e]; exact in_nI hj (by omega)) z) (fun _ => ⟨fun q => absurd rfl q, fun _ => ?_⟩)
    unfold wpX7_fails wpX7_thrown
    exact ⟨rfl, fun q => absurd q (by decide), inv_rd2 0 1 ht hu hs (by omega) (by omega) h⟩
/-- a number kept with a snapshot, out of the blocks -/
theorem kn_ok {post : Int32 → Prop} {K : KS} {nd d s i : Nat} {bl sn : Nat → Nat} {f : Nat → Int32} (hD : nD K = nd) (hd : d < nd) (hnd : nd ≤ 8) (hs : s < 6) (hi : i < 24) (hn : K 19 ((36 * d + 6 * s + i / 4) / 6) ((36 * d + 6 * s + i / 4) % 6) = nI (bl (36 * d + 6 * s + i / 4)) ∧ bl (36 * d + 6 * s + i / 4) < 288 ∧ ∀ j, j < 4 → K 10 2 (4 * bl (36 * d + 6 * s + i / 4) + j) = f (4 * (36 * d + 6 * s + i / 4) + j)) (hp : post (f (24 * (6 * d + s) + i))) : wpX2_keptNumber post K d (nI s) (nI i) := by
  obtain ⟨a1, a2, a3⟩ := hn
  have e1 : (36 * d + 6 * s + i / 4) / 6 = 6 * d + s := by omega
  have e2 : (36 * d + 6 * s + i / 4) % 6 = i / 4 := by omega
  have q1 : nI i / 4 = nI (i / 4) := pk_div (a := i) (d := 4) (by omega) (by omega) (by omega)
  have q2 : nI i - nI i / 4 * 4 = nI (i % 4) := pk_rem (a := i) (d := 4) (by omega) (by omega) (by omega)
  have a4 := a3 (i % 4) (by omega)
  rw [show 4 * (36 * d + 6 * s + i / 4) + i % 4 = 24 * (6 * d + s) + i by omega] at a4
  rw [e1, e2] at a1
  unfold wpX2_keptNumber
  refine ⟨fun c => absurd c (nI_pos (by omega)), fun _ => ⟨fun c => absurd c (nI_ge (a := s) (b := 6) hs (by omega)), fun _ => ⟨fun c => absurd c (nI_pos (by omega)), fun _ => ⟨fun _ => ?_, fun c => absurd (nI_lt (b := 24) hi (by omega)) c⟩⟩⟩⟩
  rw [q2, q1, nI_clamp (by omega), nI_clamp (by omega), a1]
  refine ⟨by rw [hD]; exact hd, vp_in_nI hs (by omega), vp_in_nI (by omega) (by omega), ?_⟩
  intro x hx
  subst hx
  have q3 : nI (bl (36 * d + 6 * s + i / 4)) * 4 + nI (i % 4) = nI (4 * bl (36 * d + 6 * s + i / 4) + i % 4) := by
    rw [← nI_add, ← nI_mul, Int32.mul_comm]
    rfl
  unfold wpX0_numberIn
  rw [q3, nI_clamp (by omega), a4]
  exact ⟨fun c => absurd c (nI_pos (by omega)), fun _ => ⟨fun c => absurd c (nI_ge (by omega) (by omega)), fun _ => ⟨vp_in_nI (by omega) (by omega), hp⟩⟩⟩
theorem c_inSnapshot {t uc us : Nat} {K M : KS} {ap o : Int64} {od : UInt64} {p1 p2 p3 : Int32} (ht : t < 512) (hI : InvC t uc us K M ap) : st_inSnapshot (InvC (t + 1)) uc us K M ap o od p1 p2 p3 := by
  obtain ⟨_, hu, hs, np, nc, nd, no, ns, P, r, cn, sn, dp, ew, go, bl, sl, sk, h⟩ := hI
  have hR := h
  obtain ⟨np1, np2, np3, nc1, nc2, nc3, nc4, nd1, nd2, nd3, nd4, no1, no2, no3, no4, ns1, ns2, ns3, lc0, lc1, lc2, lc3, l0, l1, l2, pl, sd, hs_, av, ab, c0, c1, c2, c3, c4, c6, c7, g1, g2, g3, g4, g5, g6, g7, g8, g9, d1, d2, d3, d4, d5, d6, dt, d7, d8, d9, d10, d11, d12, d13, d14, z0, n1, n0, n2, n5, n6, o1, o2, o3, o4, o5, o6, o7, ow, o8, o9⟩ := hR
  have mx : (∀ d s i, d < nd → s < sn d → i < 24 → p1 = nI d → p2 = nI s → ¬ p3 = nI i) → ∀ {post : Int32 → KS → Int64 → Prop}, post 0 (k3 (k3 M 3 0 0 0) 3 0 0 1) ap → wpX7_inSnapshot post M ap p1 p2 p3 := by
    intro z post hp
    unfold wpX7_inSnapshot
    refine ms_snap (n := nd) (sn := sn) nd3 nd4 (fun d hd => (n1 d hd).1) (fun d hd => (n1 d hd).2.1) (fun d s hd hs2 e1 e2 => ⟨fun q => absurd q (by decide), fun _ => ?_⟩) (fun _ => ⟨fun _ => ?_, fun q => absurd rfl q⟩)
    · refine md_in0 (N := 24) (n := 24) rfl (by omega) (fun z2 => ?_) (fun _ => ⟨fun _ => ?_, fun q => absurd rfl q⟩)
      · obtain ⟨i, hi, e3⟩ := nI_inN (by omega) z2.1 z2.2
        exact absurd e3 (z d s i hd hs2 hi e1 e2)
      · unfold wpX7_fails
        exact hp
    · unfold wpX7_fails
      exact hp
  have bad : (∀ d s i, d < nd → s < sn d → i < 24 → p1 = nI d → p2 = nI s → ¬ p3 = nI i) → wpX7_inSnapshot (fun b1 M1 ap1 => wpX7_thrown (fun r1 => r1 = 1 ∧ ((1 : Int32) = 0 → o = b1.toInt64) ∧ InvC (t + 1) (uc + 2) (us + 12) K M1 ap1) M1 ap1) M ap p1 p2 p3 := by
    intro z
    refine mx z ?_
    unfold wpX7_thrown
    exact ⟨rfl, fun q => absurd q (by decide), inv_rd2 0 1 ht hu hs (by omega) (by omega) h⟩
  unfold st_inSnapshot wpL_inSnapshot wpX6_inSnapshot
  refine ⟨2, 12, by omega, by omega, 1, 6, by omega, by omega, at_duel nd1 nd2 lc1 nd4 l1 (fun d hd e => ?_) (fun z => ⟨by omega, by omega, rfl, bad (fun d s i hd _ _ e => absurd (by rw [e]; exact in_nI hd (by omega)) z)⟩)⟩
  subst e
  have hD : nD K = nd := nD_of nd2 (by omega)
  have h6 := (n1 d (by omega)).2.1
  have inj : ∀ d2, d2 < nd → nI d = nI d2 → d2 = d := fun d2 hd2 q => ((nI_eq (by omega) (by omega)).mp q).symm
  rw [n0 d hd]
  refine ⟨fun c => ⟨by omega, by omega, rfl, bad (fun d2 s i hd2 hs2 _ e1 e2 => by rw [e2] at c; exact absurd c (nI_pos (by have := (n1 d2 (by omega)).2.1; omega)))⟩, fun c => ⟨by rw [hD]; exact hd, fun c2 => ⟨by omega, by omega, rfl, bad (fun d2 s i hd2 hs2 _ e1 e2 => ?_)⟩, fun c2 => ⟨fun c3 => ⟨by omega, by omega, rfl, bad (fun d2 s i hd2 hs2 hi e1 e2 e3 => by rw [e3] at c3; exact absurd c3 (nI_pos (by omega)))⟩, fun c3 => ⟨fun c4 => ?_, fun c4 => ⟨by omega, by omega, rfl, bad (fun d2 s i hd2 hs2 hi e1 e2 e3 => by rw [e3] at c4; exact absurd (nI_lt (b := 24) hi (by omega)) c4)⟩⟩⟩⟩⟩
  · have := inj d2 hd2 e1
    subst this
    rw [e2] at c2
    exact absurd c2 (nI_ge hs2 (by omega))
  · obtain ⟨s, hs2, rfl⟩ := nI_inN (n := sn d) (by omega) (Int32.not_lt.mp c) (Int32.not_le.mp c2)
    obtain ⟨i, hi, rfl⟩ := nI_inN (n := 24) (by omega) (Int32.not_lt.mp c3) c4
    refine kn_ok (f := M 16 27) (bl := bl) (sn := sn) hD hd nd4 (by omega) hi (n2.1 _ (by omega) (by unfold kpB; rw [show (36 * d + 6 * s + i / 4) / 6 % 6 = s by omega, show (36 * d + 6 * s + i / 4) / 36 = d by omega]; exact decide_eq_true hs2)) ?_
    unfold wpX7_inSnapshot
    refine ms_snap (n := nd) (sn := sn) nd3 nd4 (fun d hd => (n1 d hd).1) (fun d hd => (n1 d hd).2.1) (fun d2 s2 hd2 hs3 e1 e2 => ⟨fun q => absurd q (by decide), fun _ => ?_⟩) (fun z => absurd rfl (z d s hd hs2 rfl))
    have e4 : (24 : Int32) * (6 * nI d + nI s) + nI i = nI (24 * (6 * d + s) + i) := by
      rw [← nI_add, ← nI_mul, ← nI_add, ← nI_mul]
      rfl
    refine md_in0 (N := 24) (n := 24) rfl (by omega) (fun z2 => ⟨fun q => absurd q (by decide), fun _ => ?_⟩) (fun z => absurd (in_nI hi (by omega)) z)
    rw [e4, nI_clamp (by omega)]
    unfold wpX7_thrown
    exact ⟨vp_in_nI (by omega) (by omega), rfl, fun _ => rfl, inv_rd 0 ht hu hs (by omega) (by omega) h⟩
theorem cs_sum {post : Int32 → Prop} {K : KS} {np : Nat} {b : Int32} (h : K 0 1 0 = nI np) (hn : np ≤ 6) (he : b + sumI (K 10 0) np = K 0 2 0) (hp : post 1) : ∀ r i, i + r = np → wX6_isSound_63 post (r + 1) (b + sumI (K 10 0) i) (nI i) K := by
  intro r
  induction r with
  | zero =>
    intro i hi
    have : i = np := by omega
    subst this
    unfold wX6_isSound_63
    exact ⟨fun _ => ⟨fun c => absurd he c, fun _ => hp⟩, fun c => absurd (by rw [h]; exact nI_le (Nat.le_refl i) (by omega)) c⟩
  | succ r ih =>
    intro i hi
    unfold wX6_isSound_63
    refine ⟨fun c => absurd (by rw [← h]; exact c) (nI_ge (a := i) (b := np) (by omega) (by omega)), fun _ => ⟨vp_in_nI (by omega) (by omega), ?_⟩⟩
    intro x hx
    subst hx
    rw [nI_clamp (by omega), Int32.add_assoc, nI_1]
    exact ih (i + 1) (by omega)
theorem cs_cards {post : Int32 → Prop} {K : KS} {nc P r : Nat} (h1 : K 8 2 0 = nI nc) (h2 : nC K = nc) (h3 : lcp (K 8 3 0) nc) (h4 : nc ≤ 40) (h5 : ∀ j, j < nc → K 9 0 j = nI j) (h6 : ∀ j, j < nc → K 4 0 j = nI j) (g1 : K 1 1 0 = nI P) (g3 : K 1 5 0 = nI r) (hr : r ≤ 13824) (g5 : 3 * P ≤ r) (g7 : ∀ c, c < nc → lastH (K 11 0) (nI c) P = K 4 2 c) (hp : ∃ n1, wX6_isSound_63 post n1 (K 0 3 0 + K 0 4 0) 0 K) : ∀ r i, i + r = nc → wX6_isSound_2 post (r + 1) (nI i) K := by
  intro q
  induction q with
  | zero =>
    intro i hi
    unfold wX6_isSound_2
    exact ⟨fun _ => hp, fun c => absurd (by rw [h1]; exact nI_le (by omega) (by omega)) c⟩
  | succ q ih =>
    intro i hi
    have e : (K 9 0 (nI i).toNatClampNeg).toNatClampNeg = i := by rw [nI_clamp (by omega), h5 i (by omega), nI_clamp (by omega)]
    unfold wX6_isSound_2
    rw [e, h6 i (by omega), nI_1]
    refine ⟨fun c => absurd (by rw [← h1]; exact c) (nI_ge (a := i) (b := nc) (by omega) (by omega)), fun _ => ⟨ok_get h1 h3 (by omega) (by omega), by rw [h2]; omega, ?_⟩⟩
    unfold wpX3_lastHolder
    refine ⟨P + 1, ?_⟩
    rw [g1]
    refine cl_last g3 hr g5 P (Nat.le_refl P) ?_
    rw [g7 i (by omega)]
    exact ⟨fun _ => ih (i + 1) (by omega), fun c => absurd rfl c⟩
theorem c_isSound {t uc us : Nat} {K M : KS} {ap o : Int64} {od : UInt64} (ht : t < 512) (hI : InvC t uc us K M ap) : st_isSound (InvC (t + 1)) uc us K M ap o od := by
  obtain ⟨_, hu, hs, np, nc, nd, no, ns, P, r, cn, sn, dp, ew, go, bl, sl, sk, h⟩ := hI
  have hR := h
  obtain ⟨np1, np2, np3, nc1, nc2, nc3, nc4, nd1, nd2, nd3, nd4, no1, no2, no3, no4, ns1, ns2, ns3, lc0, lc1, lc2, lc3, l0, l1, l2, pl, sd, hs_, av, ab, c0, c1, c2, c3, c4, c6, c7, g1, g2, g3, g4, g5, g6, g7, g8, g9, d1, d2, d3, d4, d5, d6, dt, d7, d8, d9, d10, d11, d12, d13, d14, z0, n1, n0, n2, n5, n6, o1, o2, o3, o4, o5, o6, o7, ow, o8, o9⟩ := hR
  have hr := rOK_le g4
  unfold st_isSound wpX6_isSound wpX7_isSound
  refine ⟨nc + 1, cs_cards nc1 (nC_of nc2 (by omega)) lc0 nc4 l0 c0 g1 g3 hr.2 g5 g7 ⟨np + 1, ?_⟩ nc 0 (by omega)⟩
  have := cs_sum (post := fun a1 => a1 = 1 ∧ InvC (t + 1) uc us K (k3 M 3 0 0 0) ap) (K := K) (b := K 0 3 0 + K 0 4 0) np1 np3 sd ⟨rfl, inv_rd (mc := 0) (ms := 0) 0 ht hu hs (by omega) (by omega) h⟩ np 0 (by omega)
  rw [show sumI (K 10 0) 0 = 0 from rfl, Int32.add_zero] at this
  exact this
