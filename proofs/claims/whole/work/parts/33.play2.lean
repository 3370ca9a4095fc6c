/-! play, the call -/
theorem cl_side {post : Nat → Prop} {K : KS} {d τ : Nat} (hD : d < nD K) (h : K 6 5 d = nI τ) (hτ : τ < 600) (hp : post (2 * d + τ % 2)) : wpX2_sideOnTurn post K d := by
  unfold wpX2_sideOnTurn wpX2_numberOnTurn
  rw [h, and1 τ hτ]
  refine ⟨hD, hD, fun q => ?_, fun q => ?_⟩
  · rcases (by omega : τ % 2 = 0 ∨ τ % 2 = 1) with z | z
    · rw [z] at q
      exact absurd rfl q
    · rw [z] at hp
      exact hp
  · rcases (by omega : τ % 2 = 0 ∨ τ % 2 = 1) with z | z
    · rw [z] at hp
      exact hp
    · rw [z] at q
      exact absurd q (by decide)
theorem val1 (a b c : Nat) : (100 : Int32) * nI a + 10 * nI b + (nI c + 1) = nI (100 * a + 10 * b + (c + 1)) := by
  rw [← nI_add, ← nI_add, ← nI_add, ← nI_mul, ← nI_mul]
  rfl
theorem cl_put {post : Unit → KS → Prop} {K : KS} {d τ c i kd n nd nc : Nat} (hD : nD K = nd) (hd : d < nd) (hC : nC K = nc) (hc : c < nc) (h : K 6 5 d = nI τ) (hτ : τ < 600) (hi : i < 8) (h7 : K 6 7 d = nI n) (hn : n < 8) (hk : K 4 1 c = nI kd) (hk2 : kd ≤ 15) (hp : post () (k3 (k3 (k3 (k3 K 18 (2 * d + τ % 2) i 1) 6 4 d (K 6 4 d - nI (kd % 3))) 17 d n (nI (100 * (τ % 2) + 10 * (kd % 4) + (kd / 4 + 1)))) 6 7 d (nI (n + 1)))) : wpX2_putOnStack post K d c (nI i) := by
  have h2 : τ % 2 < 2 := Nat.mod_lt _ (by omega)
  unfold wpX2_putOnStack
  refine ⟨by omega, cl_side (by omega) h hτ ⟨fun q => absurd q (nI_pos (by omega)), fun _ => ⟨by omega, fun q => absurd q (nI_ge (a := i) (b := 8) (by omega) (by omega)), fun _ => ⟨fun q => absurd q (by rw [h7]; exact nI_pos (by omega)), fun _ => ⟨fun _ => ?_, fun q => absurd (by rw [h7]; exact nI_lt (b := 8) hn (by omega)) q⟩⟩⟩⟩⟩
  show vp_in (nI i) 8 ∧ c < nC K ∧ c < nC K ∧ d < nD K ∧ c < nC K ∧ c < nC K ∧ vp_in (K 6 7 d) 8 ∧ post () (k3 (k3 (k3 (k3 K 18 (2 * d + τ % 2) (nI i).toNatClampNeg 1) 6 4 d (K 6 4 d - (K 4 1 c - K 4 1 c / 3 * 3))) 17 d (K 6 7 d).toNatClampNeg ((100 * (K 6 5 d &&& 1) + 10 * (K 4 1 c - K 4 1 c / 4 * 4)) + (K 4 1 c / 4 + 1))) 6 7 d (K 6 7 d + 1))
  rw [hk, h7, h, and1 τ hτ, rem3 (by omega), rem4 (by omega), div4 (by omega), val1, nI_1, nI_clamp (n := i) (by omega), nI_clamp (n := n) (by omega)]
  exact ⟨vp_in_nI hi (by omega), by omega, by omega, by omega, by omega, by omega, vp_in_nI hn (by omega), hp⟩
theorem m_play {post : Int32 → KS → Int64 → Prop} {M : KS} {ap : Int64} {d c e n ρ kd dpt nd nc : Nat} {sk : Nat → Nat} (hnd : M 3 13 0 = nI nd) (hnd2 : nd ≤ 8) (hd : d < nd) (hnc : M 3 5 0 = nI nc) (hnc2 : nc ≤ 40) (hc : c < nc) (hρ : M 16 20 d = nI ρ) (hρ2 : ρ < 600) (he : e = ρ % 2) (h1 : M 16 21 (2 * d + e) = nI n) (hn : n ≤ 8) (h3 : ∀ i, i < n → M 16 22 (8 * (2 * d + e) + i) = nI (sk i) ∧ sk i < 40) (hk : M 16 6 c = nI kd) (hk2 : kd ≤ 15) (h24 : M 16 24 d = nI dpt) (w2 : (¬ M 13 16 d = 103 ∨ ∀ j, j < n → sk j = c → ¬ M 16 23 (8 * (2 * d + e) + j) = 0) → wpX7_fails post (k3 M 3 0 0 0) ap 2) (w3 : ∀ j, M 13 16 d = 103 → j < n → sk j = c → M 16 23 (8 * (2 * d + e) + j) = 0 → ¬ nI (kd % 3) ≤ M 16 19 d → wpX7_fails post (k3 M 3 0 0 0) ap 3) (w4 : ∀ j, M 13 16 d = 103 → j < n → sk j = c → M 16 23 (8 * (2 * d + e) + j) = 0 → nI (kd % 3) ≤ M 16 19 d → dpt < 8 ∧ post (M 16 19 d - nI (kd % 3)) (k3 (k3 (k3 (k3 (k3 M 3 0 0 0) 16 19 d (M 16 19 d - nI (kd % 3))) 16 23 (8 * (2 * d + e) + j) 1) 16 25 (16 * d + dpt) (nI (100 * e + 10 * (kd % 4) + (kd / 4 + 1)))) 16 24 d (nI (dpt + 1))) ap) : wpX7_play post M ap (nI d) (nI c) := by
  have he2 : e < 2 := by rw [he]; exact Nat.mod_lt _ (by omega)
  unfold wpX7_play
  refine ms_duel (n := nd) hnd hnd2 (fun _ _ _ => ⟨fun q => absurd q (by decide), fun _ => ?_⟩) (fun z => absurd (in_nI hd (by omega)) z)
  refine ms_card (n := nc) hnc hnc2 (fun _ _ _ => ⟨fun _ => ⟨vp_in_nI (by omega) (by omega), ?_⟩, fun q => absurd q (by decide)⟩) (fun z => absurd (in_nI hc (by omega)) z)
  intro x9 hx
  have e20 : (k3 M 3 0 0 0) 16 20 (nI d).toNatClampNeg = nI ρ := by rw [nI_clamp (by omega)]; exact hρ
  rw [e20, rem2 hρ2, ← he] at hx
  subst hx
  refine ⟨n + 1, ?_⟩
  refine ml_place (M := k3 M 3 0 0 0) (sk := sk) (by omega) he2 h1 hn (by omega) h3 (fun l4 hl => ?_) n 0 (-1) (by omega) (Or.inl ⟨rfl, fun j hj => absurd hj (Nat.not_lt_zero j)⟩)
  have i1 := ix2 d e
  have i3 := ix16 d dpt
  have e24 : (k3 M 3 0 0 0) 16 24 d = nI dpt := h24
  have e6 : (k3 M 3 0 0 0) 16 6 c = nI kd := hk
  have e16 : (k3 M 3 0 0 0) 13 16 d = M 13 16 d := rfl
  have e19 : (k3 M 3 0 0 0) 16 19 d = M 16 19 d := rfl
  have e21 : (k3 M 3 0 0 0) 16 21 (2 * d + e) = nI n := h1
  unfold wX7_play_42
  rw [i1, nI_clamp (n := 2 * d + e) (by omega), e21]
  refine ⟨vp_in_nI (by omega) (by omega), fun _ => ⟨vp_in_nI (by omega) (by omega), ?_⟩, fun z => absurd (nI_le (Nat.le_refl n) (by omega)) z⟩
  rw [nI_clamp (n := d) (by omega), nI_clamp (n := c) (by omega), e6, e16, rem3 (by omega), e19]
  refine ⟨fun q => w2 (Or.inl q), fun q => ⟨fun q2 => ⟨vp_in_nI (by omega) (by omega), vp_in_nI (by omega) (by omega), ?_⟩, fun q2 => ?_⟩⟩
  · rcases hl with ⟨z1, _⟩ | ⟨j, z1, z2, z3, z4⟩
    · exact absurd z1 q2
    · subst z4
      refine ⟨fun q3 => ?_, fun q3 => w3 j q z1 z2 z3 q3⟩
      obtain ⟨v1, v2⟩ := w4 j q z1 z2 z3 q3
      show vp_in (nI (8 * (2 * d + e) + j)) 128 ∧ vp_in (nI d) 8 ∧ vp_in (16 * nI d + M 16 24 d) 128 ∧ post (va_up (M 16 19) d (M 16 19 d - nI (kd % 3)) d) (k3 (k3 (k3 (k3 (k3 M 3 0 0 0) 16 19 d (M 16 19 d - nI (kd % 3))) 16 23 (nI (8 * (2 * d + e) + j)).toNatClampNeg 1) 16 25 (16 * nI d + M 16 24 d).toNatClampNeg ((((100 * nI e) + (10 * (M 16 6 c - M 16 6 c / 4 * 4))) + (M 16 6 c / 4)) + 1)) 16 24 d (M 16 24 d + 1)) ap
      rw [va_up_s, h24, hk, rem4 (by omega), div4 (by omega), Int32.add_assoc (100 * nI e + 10 * nI (kd % 4)), val1, i3, nI_1, nI_clamp (by omega), nI_clamp (by omega)]
      exact ⟨vp_in_nI (by omega) (by omega), vp_in_nI (by omega) (by omega), vp_in_nI (by omega) (by omega), v2⟩
  · rcases hl with ⟨_, z2⟩ | ⟨j, z1, z2, z3, z4⟩
    · exact w2 (Or.inr z2)
    · rw [z4] at q2
      exact absurd q2 (nI_neg1 (by omega))
theorem c_play {t uc us : Nat} {K M : KS} {ap o : Int64} {od : UInt64} {p1 p2 : Int32} (ht : t < 512) (hI : InvC t uc us K M ap) : st_play (InvC (t + 1)) uc us K M ap o od p1 p2 := by
  obtain ⟨_, hu, hs, np, nc, nd, no, ns, P, r, cn, sn, dp, ew, go, bl, sl, sk, h⟩ := hI
  have nc1 := rx_nc1 h
  have nc2 := rx_nc2 h
  have nc3 := rx_nc3 h
  have nc4 := rx_nc4 h
  have lc0 := rx_lc0 h
  have l0 := rx_l0 h
  have nd1 := rx_nd1 h
  have nd2 := rx_nd2 h
  have nd3 := rx_nd3 h
  have nd4 := rx_nd4 h
  have lc1 := rx_lc1 h
  have l1 := rx_l1 h
  have c1 := rx_c1 h
  have d2 := rx_d2 h
  have d5 := rx_d5 h
  have d6 := rx_d6 h
  have dt := rx_dt h
  have d7 := rx_d7 h
  have d8 := rx_d8 h
  have d9 := rx_d9 h
  have d10 := rx_d10 h
  have hC : nC K = nc := nC_of nc2 (by omega)
  have hD : nD K = nd := nD_of nd2 (by omega)
  have fin : ∀ (v : Int32), v ≠ 0 → wpX7_fails (fun r22 M23 ap24 => wpX7_thrown (fun r1 => r1 = v ∧ (v = 0 → o = r22.toInt64) ∧ InvC (t + 1) (uc + 50) (us + 1000) K M23 ap24) M23 ap24) (k3 M 3 0 0 0) ap v := by
    intro v hv
    unfold wpX7_fails wpX7_thrown
    exact ⟨rfl, fun q => absurd q hv, inv_rd2 0 v ht hu hs (by omega) (by omega) h⟩
  unfold st_play wpL_play wpX6_play
  refine ⟨50, 1000, by omega, by omega, 1, 6, by omega, by omega, at_duel nd1 nd2 lc1 nd4 l1 (fun d hd e => ?_) (fun z => ⟨by omega, by omega, Or.inl ⟨rfl, ?_⟩⟩)⟩
  · subst e
    refine ⟨1, 6, by omega, by omega, at_card nc1 nc2 lc0 nc4 l0 (fun c hc e => ?_) (fun z => ⟨by omega, by omega, Or.inl ⟨rfl, ?_⟩⟩)⟩
    · subst e
      obtain ⟨a1, a2, a3, a4, a5⟩ := d2 d hd
      obtain ⟨ρ, r1, r2⟩ := dt d hd
      obtain ⟨k1, kd, k2, k3_⟩ := c1 c hc
      obtain ⟨v1, v2, v3, v4⟩ := d10 d hd
      have hm2 : ρ % 2 < 2 := Nat.mod_lt _ (by omega)
      obtain ⟨b1, b2, b3, b4⟩ := d7 (2 * d + ρ % 2) (by omega)
      have hcp : c < nC K := by omega
      have hdp : d < nD K := by omega
      have m3 : ∀ i, i < cn (2 * d + ρ % 2) → M 16 22 (8 * (2 * d + ρ % 2) + i) = nI (sk (2 * d + ρ % 2) i) ∧ sk (2 * d + ρ % 2) i < 40 := fun i hi => by
        obtain ⟨y1, y2, y3⟩ := d8 (2 * d + ρ % 2) (by omega) i hi
        exact ⟨y2, by omega⟩
      have h23 : ∀ i, i < cn (2 * d + ρ % 2) → K 18 (2 * d + ρ % 2) i = M 16 23 (8 * (2 * d + ρ % 2) + i) := fun i hi => (d9 (2 * d + ρ % 2) (by omega) i (by omega)).2.1 hi
      have hg : M 13 16 d = 103 ↔ ew d = 0 ∧ go d = 1 := by rw [← a1, a2]; exact phv_103 a4
      have bad2 : (¬ (ew d = 0 ∧ go d = 1) ∨ ∀ j, j < cn (2 * d + ρ % 2) → sk (2 * d + ρ % 2) j = c → ¬ M 16 23 (8 * (2 * d + ρ % 2) + j) = 0) → wpX7_play (fun b1 M1 ap1 => wpX7_thrown (fun r1 => r1 = 2 ∧ ((2 : Int32) = 0 → o = b1.toInt64) ∧ InvC (t + 1) (uc + 50) (us + 1000) K M1 ap1) M1 ap1) M ap (nI d) (nI c) := by
        intro z
        refine m_play (sk := sk (2 * d + ρ % 2)) nd3 nd4 hd nc3 nc4 hc r2 (by omega) rfl b2 b3 m3 (k1.symm.trans k3_) k2 v2 (fun _ => fin 2 (by decide)) (fun j y1 y2 y3 y4 _ => ?_) (fun j y1 y2 y3 y4 _ => ?_)
        · exact absurd y4 (z.resolve_left (fun w => w (hg.mp y1)) j y2 y3)
        · exact absurd y4 (z.resolve_left (fun w => w (hg.mp y1)) j y2 y3)
      rw [a2, phv_103 a4]
      refine ⟨hdp, fun q => ?_, fun q => ⟨by omega, by omega, Or.inr (Or.inl ⟨rfl, bad2 (Or.inl q)⟩)⟩⟩
      obtain ⟨τ, t1, t2, t3, t4⟩ := d6 d hd q.1
      have hτ : τ = ρ := (nI_eq (by omega) (by omega)).mp (t3.symm.trans r2)
      subst hτ
      have hmana := (d5 d hd q.1).2.2 q.2
      refine cl_side hdp t2 (by omega) ⟨by omega, ?_⟩
      unfold wpX5_placeOfUnplayed
      refine ⟨cn (2 * d + τ % 2) + 1, cl_place (sk := sk) hD hC (by omega) hc nc4 b1 b4 b3 (fun i hi => ⟨(d8 (2 * d + τ % 2) (by omega) i hi).1, (d8 (2 * d + τ % 2) (by omega) i hi).2.2⟩) (fun i hi y1 y2 => ⟨fun _ => ⟨hcp, ?_⟩, fun w => absurd (nI_pos' (by omega)) w⟩) (fun y => ⟨fun w => absurd w (by decide), fun _ => ⟨by omega, by omega, Or.inr (Or.inl ⟨rfl, bad2 (Or.inr (fun j hj z1 z2 => y j hj z1 (by rw [h23 j hj]; exact z2)))⟩)⟩⟩) (cn (2 * d + τ % 2)) 0 (by omega) (fun j hj => absurd hj (Nat.not_lt_zero j))⟩
      unfold wpX1_cost
      rw [k3_, rem3 (by omega)]
      have hdist : ∀ j, j < cn (2 * d + τ % 2) → sk (2 * d + τ % 2) j = c → j = i := fun j hj z => (rx_d14 h d hd (2 * d + τ % 2) (2 * d + τ % 2) (by omega) (by omega) j i hj hi (z.trans y1.symm)).2
      refine ⟨hcp, fun w => ?_, fun w => ⟨by omega, by omega, Or.inr (Or.inr ⟨rfl, ?_⟩)⟩⟩
      · have hdp8 : dp d < 8 := Nat.lt_of_le_of_lt t4 (cntE_lt (k := i) (by omega) (by rw [y2]; decide))
        refine cl_put hD hd hC hc t2 (by omega) (by omega) v1 hdp8 k3_ k2 ⟨hdp, ?_⟩
        refine m_play (sk := sk (2 * d + τ % 2)) nd3 nd4 hd nc3 nc4 hc r2 (by omega) rfl b2 b3 m3 (k1.symm.trans k3_) k2 v2 (fun z => ?_) (fun j z1 z2 z3 z4 z5 => ?_) (fun j z1 z2 z3 z4 z5 => ⟨hdp8, ?_⟩)
        · rcases z with z | z
          · exact absurd (hg.mpr q) z
          · exact absurd (by rw [← h23 i hi]; exact y2) (z i hi y1)
        · rw [← hmana] at z5
          exact absurd w z5
        · have := hdist j z2 z3
          subst this
          unfold wpX7_thrown
          refine ⟨rfl, fun _ => ?_, ?_⟩
          · rw [← hmana]
            show (va_up (K 6 4) d (K 6 4 d - nI (kd % 3)) d).toInt64 = _
            rw [up_if, if_pos rfl]
          · rw [← hmana]
            exact inv_mk ht hu hs (by omega) (by omega) (rr_play h hd q.1 q.2 t2 t3 t1 ht z2 y2 k2 _)
      · refine m_play (sk := sk (2 * d + τ % 2)) nd3 nd4 hd nc3 nc4 hc r2 (by omega) rfl b2 b3 m3 (k1.symm.trans k3_) k2 v2 (fun z => ?_) (fun j z1 z2 z3 z4 z5 => fin 3 (by decide)) (fun j z1 z2 z3 z4 z5 => ?_)
        · rcases z with z | z
          · exact absurd (hg.mpr q) z
          · exact absurd (by rw [← h23 i hi]; exact y2) (z i hi y1)
        · rw [← hmana] at z5
          exact absurd z5 w
    · unfold wpX7_play
      refine ms_duel (n := nd) nd3 nd4 (fun _ _ _ => ⟨fun q => absurd q (by decide), fun _ => ?_⟩) (fun z => absurd (in_nI hd (by omega)) z)
      refine ms_card (n := nc) nc3 nc4 (fun j hj e => absurd (by rw [e]; exact in_nI hj (by omega)) z) (fun _ => ⟨fun q => absurd rfl q, fun _ => fin 1 (by decide)⟩)
  · unfold wpX7_play
    refine ms_duel (n := nd) nd3 nd4 (fun j hj e => absurd (by rw [e]; exact in_nI hj (by omega)) z) (fun _ => ⟨fun _ => fin 1 (by decide), fun q => absurd rfl q⟩)
