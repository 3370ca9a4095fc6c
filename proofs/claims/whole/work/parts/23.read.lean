/-! The calls that only read. -/
theorem nC_of {K : KS} {n : Nat} (h : K 0 20 0 = nI n) (hn : n ≤ 1000) : nC K = n := by unfold nC; rw [h, nI_clamp (by omega)]
theorem nO_of {K : KS} {n : Nat} (h : K 0 21 0 = nI n) (hn : n ≤ 1000) : nO K = n := by unfold nO; rw [h, nI_clamp (by omega)]
theorem nD_of {K : KS} {n : Nat} (h : K 0 22 0 = nI n) (hn : n ≤ 1000) : nD K = n := by unfold nD; rw [h, nI_clamp (by omega)]
theorem ok_get {K : KS} {n cnt j : Nat} (h1 : K 8 2 n = nI cnt) (h2 : lcp (K 8 3 n) cnt) (hc : cnt ≤ 1000) (hj : j < cnt) : okGet K n (nI j) := by
  obtain ⟨q, e, a1, a2, a3⟩ := h2
  unfold okGet
  rw [h1, e]
  exact ⟨nI_pos (by omega), nI_lt hj (by omega), nI_ne0 (by omega) (by omega), by rw [nI_clamp (by omega), nI_clamp (by omega)]; exact a1⟩
/-- cardAt, duelAt, offerAt over the lists' capacity -/
theorem at_card {post : Nat → Prop} {px : String → Prop} {mc ms nc : Nat} {K : KS} {p1 : Int32} (h1 : K 8 2 0 = nI nc) (h2 : K 0 20 0 = nI nc) (h3 : lcp (K 8 3 0) nc) (h4 : nc ≤ 40) (h5 : ∀ j, j < nc → K 9 0 j = nI j) (hok : ∀ j, j < nc → p1 = nI j → post j) (hx : ¬ (0 ≤ p1 ∧ p1 < nI nc) → 1 ≤ mc ∧ 6 ≤ ms ∧ px "java/lang/IndexOutOfBoundsException") : wpX6_cardAt post px mc ms K p1 := by
  obtain ⟨q, q1, q2, q3, q4⟩ := h3
  exact nd_card h1 (nC_of h2 (by omega)) q1 ⟨q2, by omega⟩ h5 hok hx
theorem at_duel {post : Nat → Prop} {px : String → Prop} {mc ms nc : Nat} {K : KS} {p1 : Int32} (h1 : K 8 2 1 = nI nc) (h2 : K 0 22 0 = nI nc) (h3 : lcp (K 8 3 1) nc) (h4 : nc ≤ 8) (h5 : ∀ j, j < nc → K 9 1 j = nI j) (hok : ∀ j, j < nc → p1 = nI j → post j) (hx : ¬ (0 ≤ p1 ∧ p1 < nI nc) → 1 ≤ mc ∧ 6 ≤ ms ∧ px "java/lang/IndexOutOfBoundsException") : wpX6_duelAt post px mc ms K p1 := by
  obtain ⟨q, q1, q2, q3, q4⟩ := h3
  exact nd_duel h1 (nD_of h2 (by omega)) q1 ⟨q2, by omega⟩ h5 hok hx
theorem at_offer {post : Nat → Prop} {px : String → Prop} {mc ms nc : Nat} {K : KS} {p1 : Int32} (h1 : K 8 2 2 = nI nc) (h2 : K 0 21 0 = nI nc) (h3 : lcp (K 8 3 2) nc) (h4 : nc ≤ 60) (h5 : ∀ j, j < nc → K 9 2 j = nI j) (hok : ∀ j, j < nc → p1 = nI j → post j) (hx : ¬ (0 ≤ p1 ∧ p1 < nI nc) → 1 ≤ mc ∧ 6 ≤ ms ∧ px "java/lang/IndexOutOfBoundsException") : wpX6_offerAt post px mc ms K p1 := by
  obtain ⟨q, q1, q2, q3, q4⟩ := h3
  exact nd_offer h1 (nO_of h2 (by omega)) q1 ⟨q2, by omega⟩ h5 hok hx
theorem in_nI {n j : Nat} (hj : j < n) (hn : n < 2 ^ 31) : 0 ≤ nI j ∧ nI j < nI n := ⟨nI_pos' (by omega), nI_lt hj hn⟩
theorem c_coinsOf {t uc us : Nat} {K M : KS} {ap o : Int64} {od : UInt64} {p1 : Int32} (ht : t < 512) (hI : InvC t uc us K M ap) : st_coinsOf (InvC (t + 1)) uc us K M ap o od p1 := by
  obtain ⟨_, hu, hs, np, nc, nd, no, ns, P, r, cn, sn, dp, ew, go, bl, sl, sk, h⟩ := hI
  have hR := h
  obtain ⟨np1, np2, np3, nc1, nc2, nc3, nc4, nd1, nd2, nd3, nd4, no1, no2, no3, no4, ns1, ns2, ns3, lc0, lc1, lc2, lc3, l0, l1, l2, pl, sd, hs_, av, ab, c0, c1, c2, c3, c4, c6, c7, g1, g2, g3, g4, g5, g6, g7, g8, g9, d1, d2, d3, d4, d5, d6, dt, d7, d8, d9, d10, d11, d12, d13, d14, z0, n1, n0, n2, n5, n6, o1, o2, o3, o4, o5, o6, o7, ow, o8, o9⟩ := hR
  exact s_coinsOf np1 np2 np3 pl ⟨by omega, by omega⟩ (fun v => inv_rd2 0 v ht hu hs (by omega) (by omega) h) (inv_rd 0 ht hu hs (by omega) (by omega) h)
theorem c_ownerOf {t uc us : Nat} {K M : KS} {ap o : Int64} {od : UInt64} {p1 : Int32} (ht : t < 512) (hI : InvC t uc us K M ap) : st_ownerOf (InvC (t + 1)) uc us K M ap o od p1 := by
  obtain ⟨_, hu, hs, np, nc, nd, no, ns, P, r, cn, sn, dp, ew, go, bl, sl, sk, h⟩ := hI
  have hR := h
  obtain ⟨np1, np2, np3, nc1, nc2, nc3, nc4, nd1, nd2, nd3, nd4, no1, no2, no3, no4, ns1, ns2, ns3, lc0, lc1, lc2, lc3, l0, l1, l2, pl, sd, hs_, av, ab, c0, c1, c2, c3, c4, c6, c7, g1, g2, g3, g4, g5, g6, g7, g8, g9, d1, d2, d3, d4, d5, d6, dt, d7, d8, d9, d10, d11, d12, d13, d14, z0, n1, n0, n2, n5, n6, o1, o2, o3, o4, o5, o6, o7, ow, o8, o9⟩ := hR
  obtain ⟨q, q1, q2, q3, q4⟩ := lc0
  exact s_ownerOf nc1 (nC_of nc2 (by omega)) q1 ⟨q2, by omega⟩ l0 nc3 nc4 (fun j hj => (c2 j hj).1) ⟨by omega, by omega⟩ (fun v => inv_rd2 0 v ht hu hs (by omega) (by omega) h) (inv_rd 0 ht hu hs (by omega) (by omega) h)
theorem c_postings {t uc us : Nat} {K M : KS} {ap o : Int64} {od : UInt64} (ht : t < 512) (hI : InvC t uc us K M ap) : st_postings (InvC (t + 1)) uc us K M ap o od := by
  obtain ⟨_, hu, hs, np, nc, nd, no, ns, P, r, cn, sn, dp, ew, go, bl, sl, sk, h⟩ := hI
  have hR := h
  obtain ⟨np1, np2, np3, nc1, nc2, nc3, nc4, nd1, nd2, nd3, nd4, no1, no2, no3, no4, ns1, ns2, ns3, lc0, lc1, lc2, lc3, l0, l1, l2, pl, sd, hs_, av, ab, c0, c1, c2, c3, c4, c6, c7, g1, g2, g3, g4, g5, g6, g7, g8, g9, d1, d2, d3, d4, d5, d6, dt, d7, d8, d9, d10, d11, d12, d13, d14, z0, n1, n0, n2, n5, n6, o1, o2, o3, o4, o5, o6, o7, ow, o8, o9⟩ := hR
  exact s_postings (g1.trans g2.symm) (inv_rd (mc := 0) (ms := 0) 0 ht hu hs (by omega) (by omega) h)
theorem c_house {t uc us : Nat} {K M : KS} {ap o : Int64} {od : UInt64} (ht : t < 512) (hI : InvC t uc us K M ap) : st_house (InvC (t + 1)) uc us K M ap o od := by
  obtain ⟨_, hu, hs, np, nc, nd, no, ns, P, r, cn, sn, dp, ew, go, bl, sl, sk, h⟩ := hI
  have hR := h
  obtain ⟨np1, np2, np3, nc1, nc2, nc3, nc4, nd1, nd2, nd3, nd4, no1, no2, no3, no4, ns1, ns2, ns3, lc0, lc1, lc2, lc3, l0, l1, l2, pl, sd, hs_, av, ab, c0, c1, c2, c3, c4, c6, c7, g1, g2, g3, g4, g5, g6, g7, g8, g9, d1, d2, d3, d4, d5, d6, dt, d7, d8, d9, d10, d11, d12, d13, d14, z0, n1, n0, n2, n5, n6, o1, o2, o3, o4, o5, o6, o7, ow, o8, o9⟩ := hR
  exact s_house hs_ (inv_rd (mc := 0) (ms := 0) 0 ht hu hs (by omega) (by omega) h)
theorem c_apart {t uc us : Nat} {K M : KS} {ap o : Int64} {od : UInt64} (ht : t < 512) (hI : InvC t uc us K M ap) : st_apart (InvC (t + 1)) uc us K M ap o od := by
  obtain ⟨_, hu, hs, np, nc, nd, no, ns, P, r, cn, sn, dp, ew, go, bl, sl, sk, h⟩ := hI
  have hR := h
  obtain ⟨np1, np2, np3, nc1, nc2, nc3, nc4, nd1, nd2, nd3, nd4, no1, no2, no3, no4, ns1, ns2, ns3, lc0, lc1, lc2, lc3, l0, l1, l2, pl, sd, hs_, av, ab, c0, c1, c2, c3, c4, c6, c7, g1, g2, g3, g4, g5, g6, g7, g8, g9, d1, d2, d3, d4, d5, d6, dt, d7, d8, d9, d10, d11, d12, d13, d14, z0, n1, n0, n2, n5, n6, o1, o2, o3, o4, o5, o6, o7, ow, o8, o9⟩ := hR
  exact s_apart av (inv_rd (mc := 0) (ms := 0) 0 ht hu hs (by omega) (by omega) h)
theorem c_stateOf {t uc us : Nat} {K M : KS} {ap o : Int64} {od : UInt64} {p1 : Int32} (ht : t < 512) (hI : InvC t uc us K M ap) : st_stateOf (InvC (t + 1)) uc us K M ap o od p1 := by
  obtain ⟨_, hu, hs, np, nc, nd, no, ns, P, r, cn, sn, dp, ew, go, bl, sl, sk, h⟩ := hI
  have hR := h
  obtain ⟨np1, np2, np3, nc1, nc2, nc3, nc4, nd1, nd2, nd3, nd4, no1, no2, no3, no4, ns1, ns2, ns3, lc0, lc1, lc2, lc3, l0, l1, l2, pl, sd, hs_, av, ab, c0, c1, c2, c3, c4, c6, c7, g1, g2, g3, g4, g5, g6, g7, g8, g9, d1, d2, d3, d4, d5, d6, dt, d7, d8, d9, d10, d11, d12, d13, d14, z0, n1, n0, n2, n5, n6, o1, o2, o3, o4, o5, o6, o7, ow, o8, o9⟩ := hR
  obtain ⟨q, q1, q2, q3, q4⟩ := lc0
  refine s_stateOf nc1 (nC_of nc2 (by omega)) q1 ⟨q2, by omega⟩ l0 nc3 nc4 (fun j hj => (c3 j hj).1) (fun j hj => ?_) ⟨by omega, by omega⟩ (fun v => inv_rd2 0 v ht hu hs (by omega) (by omega) h) (inv_rd 0 ht hu hs (by omega) (by omega) h)
  rcases (c3 j hj).2 with a | ⟨_, d, _, _, a | a⟩
  · rw [a.1]; rfl
  · rw [a.2]; rfl
  · rw [a.2]; rfl
theorem c_cardsOf {t uc us : Nat} {K M : KS} {ap o : Int64} {od : UInt64} {p1 : Int32} (ht : t < 512) (hI : InvC t uc us K M ap) : st_cardsOf (InvC (t + 1)) uc us K M ap o od p1 := by
  obtain ⟨_, hu, hs, np, nc, nd, no, ns, P, r, cn, sn, dp, ew, go, bl, sl, sk, h⟩ := hI
  have hR := h
  obtain ⟨np1, np2, np3, nc1, nc2, nc3, nc4, nd1, nd2, nd3, nd4, no1, no2, no3, no4, ns1, ns2, ns3, lc0, lc1, lc2, lc3, l0, l1, l2, pl, sd, hs_, av, ab, c0, c1, c2, c3, c4, c6, c7, g1, g2, g3, g4, g5, g6, g7, g8, g9, d1, d2, d3, d4, d5, d6, dt, d7, d8, d9, d10, d11, d12, d13, d14, z0, n1, n0, n2, n5, n6, o1, o2, o3, o4, o5, o6, o7, ow, o8, o9⟩ := hR
  obtain ⟨q, q1, q2, q3, q4⟩ := lc0
  exact s_cardsOf np1 np2 np3 nc1 (nC_of nc2 (by omega)) q1 ⟨q2, by omega⟩ l0 nc3 nc4 (fun j hj => (c2 j hj).1) ⟨by omega, by omega⟩ (fun v => inv_rd2 0 v ht hu hs (by omega) (by omega) h) (inv_rd 0 ht hu hs (by omega) (by omega) h)
theorem phv_char (a b : Nat) : narrow .char (.int (phv a b)) = .int (phv a b) := by
  unfold phv
  split <;> split <;> rfl
theorem c_duelState {t uc us : Nat} {K M : KS} {ap o : Int64} {od : UInt64} {p1 : Int32} (ht : t < 512) (hI : InvC t uc us K M ap) : st_duelState (InvC (t + 1)) uc us K M ap o od p1 := by
  obtain ⟨_, hu, hs, np, nc, nd, no, ns, P, r, cn, sn, dp, ew, go, bl, sl, sk, h⟩ := hI
  have hR := h
  obtain ⟨np1, np2, np3, nc1, nc2, nc3, nc4, nd1, nd2, nd3, nd4, no1, no2, no3, no4, ns1, ns2, ns3, lc0, lc1, lc2, lc3, l0, l1, l2, pl, sd, hs_, av, ab, c0, c1, c2, c3, c4, c6, c7, g1, g2, g3, g4, g5, g6, g7, g8, g9, d1, d2, d3, d4, d5, d6, dt, d7, d8, d9, d10, d11, d12, d13, d14, z0, n1, n0, n2, n5, n6, o1, o2, o3, o4, o5, o6, o7, ow, o8, o9⟩ := hR
  obtain ⟨q, q1, q2, q3, q4⟩ := lc1
  exact s_duelState nd1 (nD_of nd2 (by omega)) q1 ⟨q2, by omega⟩ l1 nd3 nd4 (fun j hj => (d2 j hj).1) (fun j hj => by rw [(d2 j hj).2.1]; exact phv_char _ _) ⟨by omega, by omega⟩ (fun v => inv_rd2 0 v ht hu hs (by omega) (by omega) h) (inv_rd 0 ht hu hs (by omega) (by omega) h)
theorem c_offerState {t uc us : Nat} {K M : KS} {ap o : Int64} {od : UInt64} {p1 : Int32} (ht : t < 512) (hI : InvC t uc us K M ap) : st_offerState (InvC (t + 1)) uc us K M ap o od p1 := by
  obtain ⟨_, hu, hs, np, nc, nd, no, ns, P, r, cn, sn, dp, ew, go, bl, sl, sk, h⟩ := hI
  have hR := h
  obtain ⟨np1, np2, np3, nc1, nc2, nc3, nc4, nd1, nd2, nd3, nd4, no1, no2, no3, no4, ns1, ns2, ns3, lc0, lc1, lc2, lc3, l0, l1, l2, pl, sd, hs_, av, ab, c0, c1, c2, c3, c4, c6, c7, g1, g2, g3, g4, g5, g6, g7, g8, g9, d1, d2, d3, d4, d5, d6, dt, d7, d8, d9, d10, d11, d12, d13, d14, z0, n1, n0, n2, n5, n6, o1, o2, o3, o4, o5, o6, o7, ow, o8, o9⟩ := hR
  obtain ⟨q, q1, q2, q3, q4⟩ := lc2
  refine s_offerState no1 (nO_of no2 (by omega)) q1 ⟨q2, by omega⟩ l2 no3 no4 (fun j hj => (o3 j hj).1) (fun j hj => ?_) ⟨by omega, by omega⟩ (fun v => inv_rd2 0 v ht hu hs (by omega) (by omega) h) (inv_rd 0 ht hu hs (by omega) (by omega) h)
  rcases (o3 j hj).2 with a | a | a <;> rw [a] <;> rfl
theorem c_depth {t uc us : Nat} {K M : KS} {ap o : Int64} {od : UInt64} {p1 : Int32} (ht : t < 512) (hI : InvC t uc us K M ap) : st_depth (InvC (t + 1)) uc us K M ap o od p1 := by
  obtain ⟨_, hu, hs, np, nc, nd, no, ns, P, r, cn, sn, dp, ew, go, bl, sl, sk, h⟩ := hI
  have hR := h
  obtain ⟨np1, np2, np3, nc1, nc2, nc3, nc4, nd1, nd2, nd3, nd4, no1, no2, no3, no4, ns1, ns2, ns3, lc0, lc1, lc2, lc3, l0, l1, l2, pl, sd, hs_, av, ab, c0, c1, c2, c3, c4, c6, c7, g1, g2, g3, g4, g5, g6, g7, g8, g9, d1, d2, d3, d4, d5, d6, dt, d7, d8, d9, d10, d11, d12, d13, d14, z0, n1, n0, n2, n5, n6, o1, o2, o3, o4, o5, o6, o7, ow, o8, o9⟩ := hR
  obtain ⟨q, q1, q2, q3, q4⟩ := lc1
  exact s_depth nd1 (nD_of nd2 (by omega)) q1 ⟨q2, by omega⟩ l1 nd3 nd4 (fun j hj => (d10 j hj).1.trans (d10 j hj).2.1.symm) ⟨by omega, by omega⟩ (fun v => inv_rd2 0 v ht hu hs (by omega) (by omega) h) (inv_rd 0 ht hu hs (by omega) (by omega) h)
theorem c_mana {t uc us : Nat} {K M : KS} {ap o : Int64} {od : UInt64} {p1 : Int32} (ht : t < 512) (hI : InvC t uc us K M ap) : st_mana (InvC (t + 1)) uc us K M ap o od p1 := by
  obtain ⟨_, hu, hs, np, nc, nd, no, ns, P, r, cn, sn, dp, ew, go, bl, sl, sk, h⟩ := hI
  have hR := h
  obtain ⟨np1, np2, np3, nc1, nc2, nc3, nc4, nd1, nd2, nd3, nd4, no1, no2, no3, no4, ns1, ns2, ns3, lc0, lc1, lc2, lc3, l0, l1, l2, pl, sd, hs_, av, ab, c0, c1, c2, c3, c4, c6, c7, g1, g2, g3, g4, g5, g6, g7, g8, g9, d1, d2, d3, d4, d5, d6, dt, d7, d8, d9, d10, d11, d12, d13, d14, z0, n1, n0, n2, n5, n6, o1, o2, o3, o4, o5, o6, o7, ow, o8, o9⟩ := hR
  obtain ⟨q, q1, q2, q3, q4⟩ := lc1
  refine s_mana nd1 (nD_of nd2 (by omega)) q1 ⟨q2, by omega⟩ l1 nd3 nd4 (fun j hj => (d2 j hj).1) (fun j hj c => ?_) ⟨by omega, by omega⟩ (fun v => inv_rd2 0 v ht hu hs (by omega) (by omega) h) (inv_rd 0 ht hu hs (by omega) (by omega) h)
  obtain ⟨_, a, _, b, _⟩ := d2 j hj
  rw [a, phv_103 b] at c
  exact (d5 j hj c.1).2.2 c.2
/-- numberAt within the row -/
theorem na_ok {post : Int32 → Prop} {K : KS} {r j : Nat} (h : K 1 5 0 = nI r) (hr : r ≤ 13824) (hj : j < r) (hp : post (K 11 0 j)) : wpX3_numberAt post K (nI j) := by
  unfold wpX3_numberAt
  refine ⟨fun q => absurd q (nI_pos (by omega)), fun _ => ⟨fun q => ?_, fun _ => ⟨?_, ?_⟩⟩⟩
  · rw [h, nI_clamp (by omega)] at q
    exact absurd q (nI_ge hj (by omega))
  · rw [h, nI_clamp (by omega)]
    exact vp_in_nI hj (by omega)
  · rw [nI_clamp (by omega)]
    exact hp
theorem rOK_le {r : Nat} (h : rOK r) : 216 ≤ r ∧ r ≤ 13824 := by
  unfold rOK at h
  omega
theorem cl_last {post : Int32 → Prop} {K : KS} {r P : Nat} {v : Int32} (h : K 1 5 0 = nI r) (hr : r ≤ 13824) (hP : 3 * P ≤ r) : ∀ m, m ≤ P → post (lastH (K 11 0) v m) → wX3_lastHolder_7 post (m + 1) v (nI m - 1) K := by
  intro m
  induction m with
  | zero =>
    intro _ hp
    unfold wX3_lastHolder_7
    exact ⟨fun _ => hp, fun c => absurd (by decide) c⟩
  | succ m ih =>
    intro hm hp
    have hp2 : post (if K 11 0 (3 * m) = v then K 11 0 (3 * m + 2) else lastH (K 11 0) v m) := hp
    rw [nI_pred]
    have e1 : (3 : Int32) * nI m = nI (3 * m) := nI_mul 3 m
    have e2 : nI (3 * m) + 2 = nI (3 * m + 2) := nI_add (3 * m) 2
    have e3 : nI m + (-1) = nI m - 1 := (Int32.sub_eq_add_neg _ _).symm
    unfold wX3_lastHolder_7 wpX3_cardIn wpX3_takerIn
    refine ⟨fun c => absurd c (nI_pos (by omega)), fun _ => ?_⟩
    rw [e1, e2, e3]
    refine na_ok h hr (by omega) ⟨fun c => ?_, fun c => ?_⟩
    · rw [if_neg c] at hp2
      exact ih (by omega) hp2
    · rw [if_pos c] at hp2
      exact na_ok h hr (by omega) hp2
theorem ml_last {post : Int32 → KS → Int64 → Prop} {M : KS} {ap : Int64} {P : Nat} {v : Int32} (h : M 3 11 0 = nI P) (hP : P ≤ 3994) : ∀ rem i, i + rem = P → post (lastH (M 16 12) v P) M ap → wX7_ownerByPostings_23 post (rem + 1) v (lastH (M 16 12) v i) (nI i) M ap := by
  intro rem
  induction rem with
  | zero =>
    intro i hi hp
    unfold wX7_ownerByPostings_23
    have : i = P := by omega
    subst this
    exact ⟨fun _ => hp, fun c => absurd (by rw [h]; exact nI_le (by omega) (by omega)) c⟩
  | succ rem ih =>
    intro i hi hp
    have e1 : (3 : Int32) * nI i = nI (3 * i) := nI_mul 3 i
    have e2 : nI (3 * i) + 2 = nI (3 * i + 2) := nI_add (3 * i) 2
    have e3 : lastH (M 16 12) v (i + 1) = if M 16 12 (3 * i) = v then M 16 12 (3 * i + 2) else lastH (M 16 12) v i := rfl
    unfold wX7_ownerByPostings_23
    rw [e1, e2]
    refine ⟨fun c => absurd (by rw [← h]; exact c) (nI_ge (a := i) (b := P) (by omega) (by omega)), fun _ => ⟨vp_in_nI (by omega) (by omega), fun c => ?_, fun c => ⟨vp_in_nI (by omega) (by omega), ?_⟩⟩⟩
    · rw [nI_clamp (by omega)] at c
      have := ih (i + 1) (by omega) hp
      rw [e3, if_neg c] at this
      unfold wX7_ownerByPostings_57
      rw [nI_1]
      exact this
    · rw [nI_clamp (by omega)] at c
      have := ih (i + 1) (by omega) hp
      rw [e3, if_pos c] at this
      unfold wX7_ownerByPostings_57
      rw [nI_1, nI_clamp (by omega)]
      exact this
theorem c_ownerByPostings {t uc us : Nat} {K M : KS} {ap o : Int64} {od : UInt64} {p1 : Int32} (ht : t < 512) (hI : InvC t uc us K M ap) : st_ownerByPostings (InvC (t + 1)) uc us K M ap o od p1 := by
  obtain ⟨_, hu, hs, np, nc, nd, no, ns, P, r, cn, sn, dp, ew, go, bl, sl, sk, h⟩ := hI
  have hR := h
  obtain ⟨np1, np2, np3, nc1, nc2, nc3, nc4, nd1, nd2, nd3, nd4, no1, no2, no3, no4, ns1, ns2, ns3, lc0, lc1, lc2, lc3, l0, l1, l2, pl, sd, hs_, av, ab, c0, c1, c2, c3, c4, c6, c7, g1, g2, g3, g4, g5, g6, g7, g8, g9, d1, d2, d3, d4, d5, d6, dt, d7, d8, d9, d10, d11, d12, d13, d14, z0, n1, n0, n2, n5, n6, o1, o2, o3, o4, o5, o6, o7, ow, o8, o9⟩ := hR
  have hP := rr_P h (by omega)
  have hr := rOK_le g4
  unfold st_ownerByPostings wpL_ownerByPostings wpX6_ownerByPostings
  refine ⟨1, 6, by omega, by omega, 1, 6, by omega, by omega, at_card nc1 nc2 lc0 nc4 l0 (fun j hj e => ?_) (fun z => ⟨by omega, by omega, rfl, ?_⟩)⟩
  · subst e
    refine ⟨by rw [nC_of nc2 (by omega)]; exact hj, ?_⟩
    rw [c0 j hj]
    unfold wpX3_lastHolder
    refine ⟨P + 1, ?_⟩
    rw [g1]
    refine cl_last g3 hr.2 g5 P (Nat.le_refl P) ?_
    unfold wpX7_ownerByPostings
    refine md_card (n := nc) nc3 (by omega) ?_
    rw [show k3 M 3 0 0 0 3 5 0 = nI nc from nc3, if_pos (in_nI hj (by omega))]
    refine ⟨fun _ => ⟨P + 1, ?_⟩, fun q => absurd q (by decide)⟩
    refine ml_last (M := k3 M 3 0 0 0) g2 hP P 0 (by omega) ?_
    unfold wpX7_thrown
    refine ⟨rfl, fun _ => ?_, inv_rd 0 ht hu hs (by omega) (by omega) h⟩
    rw [lastH_cong (f := K 11 0) (g := k3 M 3 0 0 0 16 12) (fun i hi => g6 i hi)]
  · unfold wpX7_ownerByPostings
    refine md_card (n := nc) nc3 (by omega) ?_
    rw [show k3 M 3 0 0 0 3 5 0 = nI nc from nc3, if_neg z]
    refine ⟨fun q => absurd rfl q, fun _ => ?_⟩
    unfold wpX7_fails wpX7_thrown
    exact ⟨rfl, fun q => absurd q (by decide), inv_rd2 0 1 ht hu hs (by omega) (by omega) h⟩
