/-! play -/
theorem and1 : ∀ τ, τ < 600 → nI τ &&& 1 = nI (τ % 2) := by decide +kernel
theorem rem2 {τ : Nat} (h : τ < 600) : nI τ - nI τ / 2 * 2 = nI (τ % 2) := pk_rem (a := τ) (d := 2) (by omega) (by omega) (by omega)
theorem rem3 {x : Nat} (h : x < 600) : nI x - nI x / 3 * 3 = nI (x % 3) := pk_rem (a := x) (d := 3) (by omega) (by omega) (by omega)
theorem rem4 {x : Nat} (h : x < 600) : nI x - nI x / 4 * 4 = nI (x % 4) := pk_rem (a := x) (d := 4) (by omega) (by omega) (by omega)
theorem div4 {x : Nat} (h : x < 600) : nI x / 4 = nI (x / 4) := pk_div (a := x) (d := 4) (by omega) (by omega) (by omega)
theorem rr_play {t np nc nd no ns P r : Nat} {cn sn dp ew go bl sl : Nat → Nat} {sk : Nat → Nat → Nat} {K M : KS} {ap : Int64} {d i τ kd : Nat} (h : RR t t np nc nd no ns P r cn sn dp ew ew go bl sl sk K M ap) (hd : d < nd) (hw : ew d = 0) (hg : go d = 1) (hτ : K 6 5 d = nI τ) (hτ2 : M 16 20 d = nI τ) (hτ3 : τ ≤ t) (ht : t < 512) (hi : i < cn (2 * d + τ % 2)) (h18 : K 18 (2 * d + τ % 2) i = 0) (hk : kd ≤ 15) (v : Int32) : RR (t+1) (t+1) np nc nd no ns P r cn sn (va_up dp d (dp d + 1)) ew ew go bl sl sk (k3 (k3 (k3 (k3 K 18 (2 * d + τ % 2) i 1) 6 4 d v) 17 d (dp d) (nI (100 * (τ % 2) + 10 * (kd % 4) + (kd / 4 + 1)))) 6 7 d (nI (dp d + 1))) (k3 (k3 (k3 (k3 (k3 M 3 0 0 0) 16 19 d v) 16 23 (8 * (2 * d + τ % 2) + i) 1) 16 25 (16 * d + dp d) (nI (100 * (τ % 2) + 10 * (kd % 4) + (kd / 4 + 1)))) 16 24 d (nI (dp d + 1))) ap := by
  have hx := rr_up (Nat.le_succ t) (Nat.le_succ t) h
  obtain ⟨np1, np2, np3, nc1, nc2, nc3, nc4, nd1, nd2, nd3, nd4, no1, no2, no3, no4, ns1, ns2, ns3, lc0, lc1, lc2, lc3, l0, l1, l2, pl, sd, hs_, av, ab, c0, c1, c2, c3, c4, c6, c7, g1, g2, g3, g4, g5, g6, g7, g8, g9, d1, d2, d3, d4, d5, d6, dt, d7, d8, d9, d10, d11, d12, d13, d14, z0, n1, n0, n2, n5, n6, o1, o2, o3, o4, o5, o6, o7, ow, o8, o9⟩ := hx
  have h2 : τ % 2 < 2 := Nat.mod_lt _ (by omega)
  obtain ⟨s, hs⟩ : ∃ s, s = 2 * d + τ % 2 := ⟨_, rfl⟩
  rw [← hs] at hi h18 ⊢
  have hsd : s < 2 * nd := by omega
  have h8 := (d7 s hsd).2.2.1
  obtain ⟨σ, w1, w2, w3, w4⟩ := d6 d hd hw
  have hστ : σ = τ := (nI_eq (by omega) (by omega)).mp (w2.symm.trans hτ)
  rw [hστ, ← hs] at w4
  have hdp : dp d < 8 := Nat.lt_of_le_of_lt w4 (cntE_lt (k := i) (by omega) (by rw [h18]; decide))
  have hcu : cntE (va_up (K 18 s) i 1) 1 8 = cntE (K 18 s) 1 8 + 1 := by
    have := cntE_up (f := K 18 s) 1 1 (show i < 8 by omega)
    rw [h18, if_neg (by decide), if_pos rfl] at this
    omega
  generalize hW : nI (100 * (τ % 2) + 10 * (kd % 4) + (kd / 4 + 1)) = W
  have hWe : okE W := ⟨τ % 2, kd % 4, kd / 4 + 1, by omega, by omega, by omega, by omega, hW.symm⟩
  have e18 : ∀ x y, (k3 (k3 (k3 (k3 K 18 s i 1) 6 4 d v) 17 d (dp d) W) 6 7 d (nI (dp d + 1))) 18 x y = if x = s ∧ y = i then 1 else K 18 x y := fun x y => by
    show k3 K 18 s i 1 18 x y = _
    rw [k3_if]
    by_cases z : x = s ∧ y = i
    · rw [if_pos ⟨rfl, z⟩, if_pos z]
    · rw [if_neg (fun w => z w.2), if_neg z]
  have e17 : ∀ x y, (k3 (k3 (k3 (k3 K 18 s i 1) 6 4 d v) 17 d (dp d) W) 6 7 d (nI (dp d + 1))) 17 x y = if x = d ∧ y = dp d then W else K 17 x y := fun x y => by
    show k3 K 17 d (dp d) W 17 x y = _
    rw [k3_if]
    by_cases z : x = d ∧ y = dp d
    · rw [if_pos ⟨rfl, z⟩, if_pos z]
    · rw [if_neg (fun w => z w.2), if_neg z]
  unfold RR
  refine ⟨np1, np2, np3, nc1, nc2, nc3, nc4, nd1, nd2, nd3, nd4, no1, no2, no3, no4, ns1, ns2, ns3, lc0, lc1, lc2, lc3, l0, l1, l2, pl, sd, hs_, av, ab, c0, c1, c2, c3, c4, c6, c7, g1, g2, g3, g4, g5, g6, g7, g8, g9, d1, d2, d3, d4, ?q_d5, ?q_d6, dt, d7, d8, ?q_d9, ?q_d10, ?q_d11, d12, d13, d14, ?q_z0, n1, n0, n2, n5, n6, o1, o2, o3, o4, o5, o6, o7, ow, o8, o9⟩
  case q_d5 =>
    intro d2_ hd2 q
    obtain ⟨a1, a2, a3⟩ := d5 d2_ hd2 q
    refine ⟨a1, a2, fun q2 => ?_⟩
    show va_up (K 6 4) d v d2_ = va_up (M 16 19) d v d2_
    rw [up_if, up_if, a3 q2]
  case q_d6 =>
    intro d2_ hd2 q
    obtain ⟨ρ, a1, a2, a3, a4⟩ := d6 d2_ hd2 q
    refine ⟨ρ, a1, a2, a3, ?_⟩
    rw [up_if]
    by_cases z : d2_ = d
    · rw [if_pos z]
      rw [z] at a2
      have : ρ = τ := (nI_eq (by omega) (by omega)).mp (a2.symm.trans hτ)
      rw [z, this, ← hs, cntE_cong (g := va_up (K 18 s) i 1) (w := 1) (fun y _ => by rw [e18, up_if]; by_cases c : y = i <;> simp [c]), hcu]
      omega
    · rw [if_neg z, cntE_cong (g := K 18 (2 * d2_ + ρ % 2)) (w := 1) (fun y _ => by rw [e18, if_neg (by omega)])]
      exact a4
  case q_d9 =>
    intro s2 hs2 y hy
    obtain ⟨a1, a2, a3⟩ := d9 s2 hs2 y hy
    show _ ∧ (_ → _ = va_up (M 16 23) (8 * s + i) 1 (8 * s2 + y)) ∧ _
    rw [e18, up_if]
    by_cases z : s2 = s ∧ y = i
    · rw [if_pos z, if_pos (by rw [z.1, z.2])]
      exact ⟨Or.inr rfl, fun _ => rfl, fun q => by rw [z.1, z.2] at q; omega⟩
    · rw [if_neg z, if_neg (by omega)]
      exact ⟨a1, a2, a3⟩
  case q_d10 =>
    intro d2_ hd2
    obtain ⟨a1, a2, a3, a4⟩ := d10 d2_ hd2
    show va_up (K 6 7) d (nI (dp d + 1)) d2_ = _ ∧ va_up (M 16 24) d (nI (dp d + 1)) d2_ = _ ∧ _
    rw [up_if, up_if, up_if]
    by_cases z : d2_ = d
    · rw [if_pos z, if_pos z, if_pos z]
      refine ⟨rfl, rfl, by omega, fun q => ?_⟩
      rw [z] at q
      omega
    · rw [if_neg z, if_neg z, if_neg z]
      exact ⟨a1, a2, a3, a4⟩
  case q_d11 =>
    intro d2_ hd2 y hy
    obtain ⟨a1, a2⟩ := d11 d2_ hd2 y hy
    show _ = va_up (M 16 25) (16 * d + dp d) W (16 * d2_ + y) ∧ _
    rw [e17, up_if, up_if]
    by_cases z : d2_ = d
    · rw [if_pos z]
      by_cases z2 : y = dp d
      · rw [if_pos ⟨z, z2⟩, if_pos (by rw [z, z2])]
        exact ⟨rfl, fun _ => hWe⟩
      · rw [if_neg (fun w => z2 w.2), if_neg (by omega)]
        exact ⟨a1, fun q => a2 (by rw [z]; omega)⟩
    · rw [if_neg z, if_neg (fun w => z w.1), if_neg (by omega)]
      exact ⟨a1, a2⟩
  case q_z0 =>
    intro d2_ hd2 hd8
    obtain ⟨a1, a2, a3, a4, a5⟩ := z0 d2_ hd2 hd8
    refine ⟨a1, a2, a3, ?_, fun y hy => ?_⟩
    · show va_up (M 16 24) d (nI (dp d + 1)) d2_ = 0
      rw [up_if, if_neg (by omega)]
      exact a4
    · show va_up (M 16 25) (16 * d + dp d) W (16 * d2_ + y) = 0
      rw [up_if, if_neg (by omega)]
      exact a5 y hy
/-- the look for a card's place, from the first one on -/
theorem cl_place {post : Int32 → Prop} {K : KS} {s c n nc nd : Nat} {sk : Nat → Nat → Nat} (hD : nD K = nd) (hC : nC K = nc) (hs : s < 2 * nd) (hc : c < nc) (hnc : nc ≤ 40) (h1 : K 8 2 (s + 4) = nI n) (h2 : lcp (K 8 3 (s + 4)) n) (hn : n ≤ 8) (h3 : ∀ i, i < n → K 9 (s + 4) i = nI (sk s i) ∧ sk s i < nc) (hit : ∀ i, i < n → sk s i = c → K 18 s i = 0 → post (nI i)) (miss : (∀ i, i < n → sk s i = c → ¬ K 18 s i = 0) → post (-1)) : ∀ r i, i + r = n → (∀ j, j < i → sk s j = c → ¬ K 18 s j = 0) → wX5_placeOfUnplayed_2 post (r + 1) s c (nI i) K := by
  intro r
  induction r with
  | zero =>
    intro i hi hq
    unfold wX5_placeOfUnplayed_2
    exact ⟨by omega, fun _ => miss (fun j hj => hq j (by omega)), fun z => absurd (by rw [h1]; exact nI_le (by omega) (by omega)) z⟩
  | succ r ih =>
    intro i hi hq
    obtain ⟨a1, a2⟩ := h3 i (by omega)
    have e : (K 9 (s + 4) (nI i).toNatClampNeg).toNatClampNeg = sk s i := by rw [nI_clamp (by omega), a1, nI_clamp (by omega)]
    have go : (sk s i = c → ¬ K 18 s i = 0) → wX5_placeOfUnplayed_45 post (wX5_placeOfUnplayed_2 post (r + 1)) s c (nI i) K := by
      intro z
      unfold wX5_placeOfUnplayed_45
      rw [nI_1]
      exact ih (i + 1) (by omega) (fun j hj => by
        rcases Nat.lt_or_ge j i with y | y
        · exact hq j y
        · rw [show j = i by omega]
          exact z)
    unfold wX5_placeOfUnplayed_2
    rw [e, nI_clamp (by omega)]
    exact ⟨by omega, fun z => absurd (by rw [← h1]; exact z) (nI_ge (a := i) (b := n) (by omega) (by omega)), fun _ => ⟨fun z => absurd z (nI_ge (a := i) (b := 8) (by omega) (by omega)), fun _ => ⟨ok_get h1 h2 (by omega) (by omega), by omega, by omega, fun z => go (fun w => absurd w z), fun z => ⟨vp_in_nI (by omega) (by omega), fun z2 => go (fun _ => z2), fun z2 => hit i (by omega) z z2⟩⟩⟩⟩
