/-! play, the call -/
theorem cl_side {post : Nat → Prop} {K : KS} {d τ : Nat} (hD : d < nD K) (h : K 6 5 d = nI τ) (hτ : τ < 600) (hp : post (2 * d + τ % 2)) : wpX2_sideOnTurn post K d := by
  unfold wpX2_sideOnTurn wpX2_numberOnTurn
  rw [h, and1 τ hτ]
  refine ⟨hD, hD, fun q => ?_, fun q => ?_⟩
  · rcases (by omega : τ % 2 = 0 ∨ τ % 2 = 1) with z | z
    · rw [z] at q
      exact absurd rfl q
    · rw [z] at hp
      exact hp
  · rcases (by omega : τ % 2 = 0 ∨ τ % 2 = 1) with z | z
    · rw [z] at hp
      exact hp
    · rw [z] at q
      exact absurd q (by decide)
theorem val1 (a b c : Nat) : (100 : Int32) * nI a + 10 * nI b + (nI c + 1) = nI (100 * a + 10 * b + (c + 1)) := by
  rw [← nI_add, ← nI_add, ← nI_add, ← nI_mul, ← nI_mul]
  rfl
theorem cl_put {post : Unit → KS → Prop} {K : KS} {d τ c i kd n nd nc : Nat} (hD : nD K = nd) (hd : d < nd) (hC : nC K = nc) (hc : c < nc) (h : K 6 5 d = nI τ) (hτ : τ < 600) (hi : i < 8) (h7 : K 6 7 d = nI n) (hn : n < 8) (hk : K 4 1 c = nI kd) (hk2 : kd ≤ 15) (hp : post () (k3 (k3 (k3 (k3 K 18 (2 * d + τ % 2) i 1) 6 4 d (K 6 4 d - nI (kd % 3))) 17 d n (nI (100 * (τ % 2) + 10 * (kd % 4) + (kd / 4 + 1)))) 6 7 d (nI (n + 1)))) : wpX2_putOnStack post K d c (nI i) := by
  have h2 : τ % 2 < 2 := Nat.mod_lt _ (by omega)
  unfold wpX2_putOnStack
  refine ⟨by omega, cl_side (by omega) h hτ ⟨fun q => absurd q (nI_pos (by omega)), fun _ => ⟨by omega, fun q => absurd q (nI_ge (a := i) (b := 8) (by omega) (by omega)), fun _ => ⟨fun q => absurd q (by rw [h7]; exact nI_pos (by omega)), fun _ => ⟨fun _ => ?_, fun q => absurd (by rw [h7]; exact nI_lt (b := 8) hn (by omega)) q⟩⟩⟩⟩⟩
  show vp_in (nI i) 8 ∧ c < nC K ∧ c < nC K ∧ d < nD K ∧ c < nC K ∧ c < nC K ∧ vp_in (K 6 7 d) 8 ∧ post () (k3 (k3 (k3 (k3 K 18 (2 * d + τ % 2) (nI i).toNatClampNeg 1) 6 4 d (K 6 4 d - (K 4 1 c - K 4 1 c / 3 * 3))) 17 d (K 6 7 d).toNatClampNeg ((100 * (K 6 5 d &&& 1) + 10 * (K 4 1 c - K 4 1 c / 4 * 4)) + (K 4 1 c / 4 + 1))) 6 7 d (K 6 7 d + 1))
  rw [hk, h7, h, and1 τ hτ, rem3 (by omega), rem4 (by omega), div4 (by omega), val1, nI_1, nI_clamp (n := i) (by omega), nI_clamp (n := n) (by omega)]
  exact ⟨vp_in_nI hi (by omega), by omega, by omega, by omega, by omega, by omega, vp_in_nI hn (by omega), hp⟩
-- k rows
theorem k_play {t np nc nd no : Nat} {sn : Nat → Nat} {K : KS} {G : Int32 → KS → Prop} {p1 p2 p3 : Int32} (ht : t < 512) (hI : V36 t np nc nd no sn K) (hf : ∀ v : Int32, v < 0 → G v K) (hK : ∀ v K' d, d < nd → p1 = nI d → 0 ≤ v → v ≤ K 6 4 d → K 6 2 d = 103 → V36 (t+1) np nc nd no sn K' → SM K K' → K' 6 7 d = K 6 7 d + 1 → G v K') : wpL_c11 G 50 1000 K p1 p2 p3 := by
  obtain ⟨ns, P, r, cn, dp, ew, go, bl, sl, sk, M, ap, h⟩ := hI
  have nc1 := rx_nc1 h
  have nc2 := rx_nc2 h
  have nc3 := rx_nc3 h
  have nc4 := rx_nc4 h
  have lc0 := rx_lc0 h
  have l0 := rx_l0 h
  have nd1 := rx_nd1 h
  have nd2 := rx_nd2 h
  have nd3 := rx_nd3 h
  have nd4 := rx_nd4 h
  have lc1 := rx_lc1 h
  have l1 := rx_l1 h
  have c1 := rx_c1 h
  have d2 := rx_d2 h
  have d5 := rx_d5 h
  have d6 := rx_d6 h
  have dt := rx_dt h
  have d7 := rx_d7 h
  have d8 := rx_d8 h
  have d9 := rx_d9 h
  have d10 := rx_d10 h
  have hC : nC K = nc := nC_of nc2 (by omega)
  have hD : nD K = nd := nD_of nd2 (by omega)
  unfold wpL_c11 wpX6_play
  refine ⟨1, 6, by omega, by omega, at_duel nd1 nd2 lc1 nd4 l1 (fun d hd e => ?_) (fun _ => ⟨by omega, by omega, xI (hf _ (by decide))⟩)⟩
  · subst e
    refine ⟨1, 6, by omega, by omega, at_card nc1 nc2 lc0 nc4 l0 (fun c hc e => ?_) (fun _ => ⟨by omega, by omega, xI (hf _ (by decide))⟩)⟩
    · subst e
      obtain ⟨a1, a2, a3, a4, a5⟩ := d2 d hd
      obtain ⟨ρ, r1, r2⟩ := dt d hd
      obtain ⟨k1, kd, k2, k3_⟩ := c1 c hc
      obtain ⟨v1, v2, v3, v4⟩ := d10 d hd
      have hm2 : ρ % 2 < 2 := Nat.mod_lt _ (by omega)
      obtain ⟨b1, b2, b3, b4⟩ := d7 (2 * d + ρ % 2) (by omega)
      have hcp : c < nC K := by omega
      have hdp : d < nD K := by omega
      rw [a2, phv_103 a4]
      refine ⟨hdp, fun q => ?_, fun q => ⟨by omega, by omega, xU (hf _ (by decide))⟩⟩
      obtain ⟨τ, t1, t2, t3, t4⟩ := d6 d hd q.1
      have hτ : τ = ρ := (nI_eq (by omega) (by omega)).mp (t3.symm.trans r2)
      subst hτ
      have hmana := (d5 d hd q.1).2.2 q.2
      refine cl_side hdp t2 (by omega) ⟨by omega, ?_⟩
      unfold wpX5_placeOfUnplayed
      refine ⟨cn (2 * d + τ % 2) + 1, cl_place (sk := sk) hD hC (by omega) hc nc4 b1 b4 b3 (fun i hi => ⟨(d8 (2 * d + τ % 2) (by omega) i hi).1, (d8 (2 * d + τ % 2) (by omega) i hi).2.2⟩) (fun i hi y1 y2 => ⟨fun _ => ⟨hcp, ?_⟩, fun w => absurd (nI_pos' (by omega)) w⟩) (fun y => ⟨fun w => absurd w (by decide), fun _ => ⟨by omega, by omega, xU (hf _ (by decide))⟩⟩) (cn (2 * d + τ % 2)) 0 (by omega) (fun j hj => absurd hj (Nat.not_lt_zero j))⟩
      unfold wpX1_cost
      rw [k3_, rem3 (by omega)]
      refine ⟨hcp, fun w => ?_, fun w => ⟨by omega, by omega, xS (hf _ (by decide))⟩⟩
      have hdp8 : dp d < 8 := Nat.lt_of_le_of_lt t4 (cntE_lt (k := i) (by omega) (by rw [y2]; decide))
      refine cl_put hD hd hC hc t2 (by omega) (by omega) v1 hdp8 k3_ k2 ⟨hdp, ?_⟩
      have w9 := w
      have s1 : (nI (kd % 3)).toInt = ((kd % 3 : Nat) : Int) := nI_toInt (by omega)
      have s2 := Int32.le_iff_toInt_le.mp w9
      have s3 : (K 6 4 d - nI (kd % 3)).toInt = (K 6 4 d).toInt - ((kd % 3 : Nat) : Int) := by
        have := Int32.toInt_lt (K 6 4 d)
        rw [Int32.toInt_sub, s1]
        exact Int.bmod_eq_of_le (by omega) (by omega)
      have e9 : (k3 (k3 (k3 (k3 K 18 (2 * d + τ % 2) i 1) 6 4 d (K 6 4 d - nI (kd % 3))) 17 d (dp d) (nI (100 * (τ % 2) + 10 * (kd % 4) + (kd / 4 + 1)))) 6 7 d (nI (dp d + 1))) 6 4 d = K 6 4 d - nI (kd % 3) := by
        show va_up (K 6 4) d (K 6 4 d - nI (kd % 3)) d = _
        rw [up_if, if_pos rfl]
      refine hK _ _ d hd rfl ?_ ?_ ?_ ⟨ns, P, r, cn, _, ew, go, bl, sl, sk, _, ap, rr_play h hd q.1 q.2 t2 t3 t1 ht hi y2 k2 _⟩ ⟨rfl, rfl, rfl⟩ ?_
      · rw [e9]
        exact Int32.le_iff_toInt_le.mpr (by rw [s3]; show (0 : Int) ≤ _; omega)
      · rw [e9]
        exact Int32.le_iff_toInt_le.mpr (by rw [s3]; omega)
      · rw [a2]
        exact (phv_103 a4).mpr q
      · show va_up (K 6 7) d (nI (dp d + 1)) d = K 6 7 d + 1
        rw [up_if, if_pos rfl, v1, nI_1]
