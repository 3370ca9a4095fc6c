/-! The end of a duel: first the duel itself, then its cards. -/
theorem rr_endA {t np nc nd no ns P r : Nat} {cn sn dp ew go bl sl : Nat → Nat} {sk : Nat → Nat → Nat} {K M : KS} {ap : Int64} {d τ : Nat} {x y u v w : Int32} (h : RR t t np nc nd no ns P r cn sn dp ew ew go bl sl sk K M ap) (hd : d < nd) (hw : ew d = 0) (hg : go d = 1) (hτ : M 16 20 d = nI τ) (hτ3 : τ ≤ t) (hw3 : w = -1 ∨ w = K 7 0 (2 * d) ∨ w = K 7 0 (2 * d + 1)) : RR (t+1) t np nc nd no ns P r cn sn (va_up dp d 0) ew (va_up ew d 1) go bl sl sk (k3 (k3 (k3 (k3 (kSt K d 0 x y) 6 5 d u) 6 4 d v) 6 2 d 101) 6 3 d w) (k3 (k3 (k3 (mSt (k3 M 3 0 0 0) d 0 x y) 16 20 d (nI (τ + 1))) 16 17 d w) 13 16 d 101) ap := by
  have hx := rr_up (Nat.le_succ t) (Nat.le_refl t) h
  have hdt := rx_dt h
  obtain ⟨np1, np2, np3, nc1, nc2, nc3, nc4, nd1, nd2, nd3, nd4, no1, no2, no3, no4, ns1, ns2, ns3, lc0, lc1, lc2, lc3, l0, l1, l2, pl, sd, hs_, av, ab, c0, c1, c2, c3, c4, c6, c7, g1, g2, g3, g4, g5, g6, g7, g8, g9, d1, d2, d3, d4, d5, d6, dt, d7, d8, d9, d10, d11, d12, d13, d14, z0, n1, n0, n2, n5, n6, o1, o2, o3, o4, o5, o6, o7, ow, o8, o9⟩ := hx
  have hev : ∀ z, va_up ew d 1 z = if z = d then 1 else ew z := fun _ => rfl
  unfold RR
  refine ⟨np1, np2, np3, nc1, nc2, nc3, nc4, nd1, nd2, nd3, nd4, no1, no2, no3, no4, ns1, ns2, ns3, lc0, lc1, lc2, lc3, l0, l1, l2, pl, sd, hs_, av, ab, c0, c1, c2, c3, c4, c6, c7, g1, g2, g3, g4, g5, g6, g7, g8, g9, d1, ?q_d2, ?q_d3, ?q_d4, ?q_d5, ?q_d6, ?q_dt, d7, d8, d9, ?q_d10, ?q_d11, d12, d13, d14, ?q_z0, n1, n0, n2, n5, n6, o1, o2, o3, o4, o5, o6, o7, ow, o8, ?q_o9⟩
  case q_d2 =>
    intro e hd2
    obtain ⟨a1, a2, a3, a4, a5⟩ := d2 e hd2
    show va_up (K 6 2) d 101 e = va_up (M 13 16) d 101 e ∧ va_up (K 6 2) d 101 e = _ ∧ _
    rw [up_if, up_if, hev]
    by_cases z : e = d
    · rw [if_pos z, if_pos z, if_pos z]
      exact ⟨rfl, rfl, by omega, a4, fun _ => by rw [z]; exact hg⟩
    · rw [if_neg z, if_neg z, if_neg z]
      exact ⟨a1, a2, a3, a4, a5⟩
  case q_d3 =>
    intro s hs
    show va_up (va_up (K 7 1) (2 * d) x) (2 * d + 1) y s = va_up (va_up (M 16 18) (2 * d) x) (2 * d + 1) y s
    rw [up_if, up_if, up_if, up_if, d3 s hs]
  case q_d4 =>
    intro e hd2 q
    show va_up (K 6 3) d w e = va_up (M 16 17) d w e ∧ (va_up (K 6 3) d w e = -1 ∨ va_up (K 6 3) d w e = K 7 0 (2 * e) ∨ va_up (K 6 3) d w e = K 7 0 (2 * e + 1))
    rw [hev] at q
    rw [up_if, up_if]
    by_cases z : e = d
    · rw [if_pos z, if_pos z, z]
      exact ⟨rfl, hw3⟩
    · rw [if_neg z] at q
      rw [if_neg z, if_neg z]
      exact d4 e hd2 q
  case q_d5 =>
    intro e hd2 q
    rw [hev] at q
    have hne : e ≠ d := fun z => by rw [if_pos z] at q; omega
    rw [if_neg hne] at q
    obtain ⟨a1, a2, a3⟩ := d5 e hd2 q
    show lifeOK (va_up (va_up (K 7 1) (2 * d) x) (2 * d + 1) y (2 * e)) ∧ lifeOK (va_up (va_up (K 7 1) (2 * d) x) (2 * d + 1) y (2 * e + 1)) ∧ (_ → va_up (K 6 4) d v e = M 16 19 e)
    rw [up_if, up_if, up_if, up_if, up_if, if_neg (by omega), if_neg (by omega), if_neg (by omega), if_neg (by omega), if_neg hne]
    exact ⟨a1, a2, a3⟩
  case q_d6 =>
    intro e hd2 q
    rw [hev] at q
    have hne : e ≠ d := fun z => by rw [if_pos z] at q; omega
    rw [if_neg hne] at q
    obtain ⟨ρ, a1, a2, a3, a4⟩ := d6 e hd2 q
    refine ⟨ρ, a1, ?_, ?_, ?_⟩
    · show va_up (K 6 5) d u e = _
      rw [up_if, if_neg hne]
      exact a2
    · show va_up (M 16 20) d (nI (τ + 1)) e = _
      rw [up_if, if_neg hne]
      exact a3
    · rw [up_if, if_neg hne]
      exact a4
  case q_dt =>
    intro e hd2
    show ∃ ρ, ρ ≤ t + 1 ∧ va_up (M 16 20) d (nI (τ + 1)) e = nI ρ
    rw [up_if]
    by_cases z : e = d
    · rw [if_pos z]
      exact ⟨τ + 1, by omega, rfl⟩
    · rw [if_neg z]
      exact dt e hd2
  case q_d10 =>
    intro e hd2
    obtain ⟨a1, a2, a3, a4⟩ := d10 e hd2
    show va_up (K 6 7) d 0 e = _ ∧ va_up (M 16 24) d 0 e = _ ∧ _
    rw [up_if, up_if, up_if, hev]
    by_cases z : e = d
    · rw [if_pos z, if_pos z, if_pos z]
      exact ⟨rfl, rfl, by omega, fun _ => rfl⟩
    · rw [if_neg z, if_neg z, if_neg z, if_neg z]
      exact ⟨a1, a2, a3, a4⟩
  case q_d11 =>
    intro e hd2 i hi
    obtain ⟨a1, a2⟩ := d11 e hd2 i hi
    refine ⟨a1, fun q => a2 ?_⟩
    rw [up_if] at q
    by_cases z : e = d
    · rw [if_pos z] at q
      omega
    · rw [if_neg z] at q
      exact q
  case q_z0 =>
    intro e hd2 hd8
    obtain ⟨a1, a2, a3, a4, a5⟩ := z0 e hd2 hd8
    show va_up (M 16 20) d (nI (τ + 1)) e = 0 ∧ _ ∧ _ ∧ va_up (M 16 24) d 0 e = 0 ∧ _
    rw [up_if, up_if, if_neg (by omega), if_neg (by omega)]
    exact ⟨a1, a2, a3, a4, a5⟩
  case q_o9 =>
    intro e hd2 q
    have hne : e ≠ d := fun z => by rw [z] at q; omega
    refine ch_gen (D := fun _ => True) (fun o o2 ho hB s hs i hi => ?_) ns (fun j hj => ⟨Iff.rfl, fun _ => ⟨rfl, rfl, rfl, trivial⟩⟩) (K 4 2) _ (fun _ _ => rfl) (o9 e hd2 q)
    show _ = if va_up (K 6 3) d w e = -1 then _ else va_up (K 6 3) d w e
    rw [ho _ trivial, up_if, if_neg hne]
    exact hB s hs i hi
theorem ch_base {kw kc kb ks : Nat → Int32} {sl : Nat → Nat} {d : Nat} {B : (Nat → Int32) → Prop} : ∀ n o, (∀ j, j < n → ¬ kw (sl j) = nI d) → B o → ChOk kw kc kb ks sl d B n o := by
  intro n
  induction n with
  | zero => intro o _ h; exact h
  | succ n ih =>
    intro o h hB
    exact ⟨fun q => absurd q (h n (by omega)), fun _ => ih o (fun j hj => h j (by omega)) hB⟩
theorem rr_Pn {t e np nc nd no ns P r : Nat} {cn sn dp ew ev go bl sl : Nat → Nat} {sk : Nat → Nat → Nat} {K M : KS} {ap : Int64} {P2 e2 : Nat} (h : RR t e np nc nd no ns P r cn sn dp ew ev go bl sl sk K M ap) (h8 : P2 + 8 * (np + nd + sumN cn (2 * nd)) + 7 * nc ≤ 8 * e2) (h9 : (∃ s, s < 2 * nd ∧ cn s = 8) ∨ P2 ≤ 7 * e2) (he : e2 ≤ 512) : P2 ≤ 3994 := by
  obtain ⟨_, _, np3, _, _, _, _, _, _, _, _, _, _, _, _, _, _, _, _, _, _, _, _, _, _, _, _, _, _, _, _, _, _, _, _, _, _, _, _, _, _, _, _, _, _, _, d1, _, _, _, _, _, _, d7, d8, _, _, _, _, _, d14, _, _, _, _, _, _, _, _, _, _, _, _, _, _, _, _⟩ := h
  rcases h9 with ⟨s, hs, h8s⟩ | q
  · obtain ⟨_, _, a, b, ha, hb, hab, _⟩ := d1 (s / 2) (by omega)
    have hS := sumN_ge (f := cn) hs
    have h0 := (d8 s hs 0 (by omega)).2.2
    have h1 := (d8 s hs 1 (by omega)).2.2
    have hne : sk s 0 ≠ sk s 1 := fun q => by
      have := (d14 (s / 2) (by omega) s s (by omega) (by omega) 0 1 (by omega) (by omega) q).2
      omega
    omega
  · omega
/-- how many postings an award makes, and who owns then -/
theorem aw_facts {t e np nc nd no ns P r : Nat} {cn sn dp ew ev go bl sl : Nat → Nat} {sk : Nat → Nat → Nat} {K M : KS} {ap : Int64} {d : Nat} {w : Int32} (h : RR t e np nc nd no ns P r cn sn dp ew ev go bl sl sk K M ap) (hd : d < nd) (hq : ew d = 0) (hw : w = -1 ∨ w = K 7 0 (2 * d) ∨ w = K 7 0 (2 * d + 1)) : (∃ s, (s = 2 * d ∨ s = 2 * d + 1) ∧ (hF (sk (2 * d + 1)) w 0 (cn (2 * d + 1)) (hF (sk (2 * d)) w 0 (cn (2 * d)) (P, K 11 0, K 4 2))).1 ≤ P + cn s) ∧ (∀ s, (s = 2 * d ∨ s = 2 * d + 1) → ∀ i, i < cn s → (hF (sk (2 * d + 1)) w 0 (cn (2 * d + 1)) (hF (sk (2 * d)) w 0 (cn (2 * d)) (P, K 11 0, K 4 2))).2.2 (sk s i) = if w = -1 then K 7 0 s else w) ∧ (∀ c, (∀ s, (s = 2 * d ∨ s = 2 * d + 1) → ∀ i, i < cn s → sk s i ≠ c) → (hF (sk (2 * d + 1)) w 0 (cn (2 * d + 1)) (hF (sk (2 * d)) w 0 (cn (2 * d)) (P, K 11 0, K 4 2))).2.2 c = K 4 2 c) := by
  have d13 := rx_d13 h d hd hq
  obtain ⟨_, _, pa, pb, _, _, _, p7, p8⟩ := rx_d1 h d hd
  have np3 := rx_np3 h
  refine ⟨?_, fun s hs i hi => ?_, fun c hc => ?_⟩
  · rcases hw with hw | hw | hw
    · rw [hw, hF_none, hF_none]
      exact ⟨2 * d, Or.inl rfl, Nat.le_add_right _ _⟩
    · rw [hF_id (sk := sk (2 * d)) (cn (2 * d)) 0 _ (fun j _ hj => by
        show K 4 2 (sk (2 * d) j) = w
        rw [hw]
        exact d13 (2 * d) (Or.inl rfl) j (by omega))]
      exact ⟨2 * d + 1, Or.inr rfl, hF_le _ _ _⟩
    · have hwn : w ≠ -1 := by rw [hw, p8]; exact nI_neg1 (by omega)
      rw [hF_id (sk := sk (2 * d + 1)) (cn (2 * d + 1)) 0 _ (fun j _ hj => by
        by_cases z : ∃ i, 0 ≤ i ∧ i < 0 + cn (2 * d) ∧ sk (2 * d) i = sk (2 * d + 1) j
        · exact hF_in hwn _ _ _ _ z
        · rw [hF_out _ _ _ _ (fun i a b e => z ⟨i, a, b, e⟩)]
          show K 4 2 (sk (2 * d + 1) j) = w
          rw [hw]
          exact d13 (2 * d + 1) (Or.inr rfl) j (by omega))]
      exact ⟨2 * d, Or.inl rfl, hF_le _ _ _⟩
  · by_cases hwn : w = -1
    · rw [if_pos hwn, hwn, hF_none, hF_none]
      exact d13 s hs i hi
    · rw [if_neg hwn]
      by_cases z : ∃ j, 0 ≤ j ∧ j < 0 + cn (2 * d + 1) ∧ sk (2 * d + 1) j = sk s i
      · exact hF_in hwn _ _ _ _ z
      · rw [hF_out _ _ _ _ (fun j a b e => z ⟨j, a, b, e⟩)]
        rcases hs with hs | hs
        · subst hs
          exact hF_in hwn _ _ _ _ ⟨i, by omega, by omega, rfl⟩
        · subst hs
          exact absurd ⟨i, by omega, by omega, rfl⟩ z
  · rw [hF_out _ _ _ _ (fun j _ hj => hc (2 * d + 1) (Or.inr rfl) j (by omega)), hF_out _ _ _ _ (fun j _ hj => hc (2 * d) (Or.inl rfl) j (by omega))]
theorem rr_award {t e np nc nd no ns P r : Nat} {cn sn dp ew ev go bl sl : Nat → Nat} {sk : Nat → Nat → Nat} {K M : KS} {ap : Int64} {d r2 : Nat} {y : LXp} {w : Int32} (h : RR t e np nc nd no ns P r cn sn dp ew ev go bl sl sk K M ap) (hd : d < nd) (hev : ev d = 1) (hew : ew d = 0) (hw3 : K 6 3 d = w) (hr2 : rOK r2) (hr3 : 3 * (hF (sk (2 * d + 1)) w 0 (cn (2 * d + 1)) (hF (sk (2 * d)) w 0 (cn (2 * d)) (P, K 11 0, K 4 2))).1 ≤ r2) (hy : hRf y (hF (sk (2 * d + 1)) w 0 (cn (2 * d + 1)) (hF (sk (2 * d)) w 0 (cn (2 * d)) (P, K 11 0, K 4 2)))) : RR t (e+1) np nc nd no ns ((hF (sk (2 * d + 1)) w 0 (cn (2 * d + 1)) (hF (sk (2 * d)) w 0 (cn (2 * d)) (P, K 11 0, K 4 2))).1) r2 cn sn dp (va_up ew d 1) ev go bl sl sk (kH (kr K 4 3 (stF (sk (2 * d + 1)) 119 0 (cn (2 * d + 1)) (stF (sk (2 * d)) 119 0 (cn (2 * d)) (K 4 3)))) r2 y) (mH (kr M 13 8 (stF (sk (2 * d + 1)) 119 0 (cn (2 * d + 1)) (stF (sk (2 * d)) 119 0 (cn (2 * d)) (M 13 8)))) (hF (sk (2 * d + 1)) w 0 (cn (2 * d + 1)) (hF (sk (2 * d)) w 0 (cn (2 * d)) (P, M 16 12, M 16 7)))) ap := by
  have hw := (rx_d4 h d hd (by omega)).2
  rw [hw3] at hw
  obtain ⟨⟨sP, hsP, hPle⟩, hin, hout⟩ := aw_facts h hd hew hw
  obtain ⟨np1, np2, np3, nc1, nc2, nc3, nc4, nd1, nd2, nd3, nd4, no1, no2, no3, no4, ns1, ns2, ns3, lc0, lc1, lc2, lc3, l0, l1, l2, pl, sd, hs_, av, ab, c0, c1, c2, c3, c4, c6, c7, g1, g2, g3, g4, g5, g6, g7, g8, g9, d1, d2, d3, d4, d5, d6, dt, d7, d8, d9, d10, d11, d12, d13, d14, z0, n1, n0, n2, n5, n6, o1, o2, o3, o4, o5, o6, o7, ow, o8, o9⟩ := h
  have hsk0 : ∀ s, (s = 2 * d ∨ s = 2 * d + 1) → ∀ j, j < 0 + cn s → sk s j < nc := fun s hs j hj => (d8 s (by omega) j (by omega)).2.2
  have hRR : hR nc (hF (sk (2 * d + 1)) w 0 (cn (2 * d + 1)) (hF (sk (2 * d)) w 0 (cn (2 * d)) (P, K 11 0, K 4 2))) (hF (sk (2 * d + 1)) w 0 (cn (2 * d + 1)) (hF (sk (2 * d)) w 0 (cn (2 * d)) (P, M 16 12, M 16 7))) := hF_R _ _ _ _ (hsk0 _ (Or.inr rfl)) (hF_R _ _ _ _ (hsk0 _ (Or.inl rfl)) ⟨rfl, g6, fun i hi => (c2 i hi).1⟩)
  have hLL : hL nc (hF (sk (2 * d + 1)) w 0 (cn (2 * d + 1)) (hF (sk (2 * d)) w 0 (cn (2 * d)) (P, K 11 0, K 4 2))) := hF_L (by omega) _ _ _ (hsk0 _ (Or.inr rfl)) (hF_L (by omega) _ _ _ (hsk0 _ (Or.inl rfl)) g7)
  generalize hX : hF (sk (2 * d + 1)) w 0 (cn (2 * d + 1)) (hF (sk (2 * d)) w 0 (cn (2 * d)) (P, K 11 0, K 4 2)) = X at *
  generalize hZ : hF (sk (2 * d + 1)) w 0 (cn (2 * d + 1)) (hF (sk (2 * d)) w 0 (cn (2 * d)) (P, M 16 12, M 16 7)) = Z at *
  have hq2 : ew d ≠ 2 := by omega
  have st_in : ∀ (f : Nat → Int32) c, c < nc → K 4 5 c = nI d → stF (sk (2 * d + 1)) 119 0 (cn (2 * d + 1)) (stF (sk (2 * d)) 119 0 (cn (2 * d)) f) c = 119 := fun f c hc q => by
    obtain ⟨s, w1, i, w2, w3⟩ := c6 c hc d hd q
    rcases w1 with w1 | w1
    · by_cases z : ∃ j, 0 ≤ j ∧ j < 0 + cn (2 * d + 1) ∧ sk (2 * d + 1) j = c
      · exact stF_in _ _ _ _ z
      · rw [stF_out _ _ _ _ (fun j a b e => z ⟨j, a, b, e⟩)]
        exact stF_in _ _ _ _ ⟨i, by omega, by rw [← w1]; omega, by rw [← w1]; exact w3⟩
    · exact stF_in _ _ _ _ ⟨i, by omega, by rw [← w1]; omega, by rw [← w1]; exact w3⟩
  have hnl : ∀ c, ¬ K 4 5 c = nI d → ∀ s, (s = 2 * d ∨ s = 2 * d + 1) → ∀ j, j < cn s → sk s j ≠ c := fun c q s hs j hj e => q (by rw [← e]; exact d12 d hd hq2 s hs j hj)
  have st_out : ∀ (f : Nat → Int32) c, ¬ K 4 5 c = nI d → stF (sk (2 * d + 1)) 119 0 (cn (2 * d + 1)) (stF (sk (2 * d)) 119 0 (cn (2 * d)) f) c = f c := fun f c q => by
    rw [stF_out _ _ _ _ (fun j _ b => hnl c q _ (Or.inr rfl) j (by omega)), stF_out _ _ _ _ (fun j _ b => hnl c q _ (Or.inl rfl) j (by omega))]
  have ow_out : ∀ c, ¬ K 4 5 c = nI d → X.2.2 c = K 4 2 c := fun c q => hout c (hnl c q)
  generalize hF3 : stF (sk (2 * d + 1)) 119 0 (cn (2 * d + 1)) (stF (sk (2 * d)) 119 0 (cn (2 * d)) (K 4 3)) = F3
  generalize hF8 : stF (sk (2 * d + 1)) 119 0 (cn (2 * d + 1)) (stF (sk (2 * d)) 119 0 (cn (2 * d)) (M 13 8)) = F8
  have e43 : ∀ c, (kH (kr K 4 3 F3) r2 y) 4 3 c = F3 c := fun _ => rfl
  have e42 : ∀ c, (kH (kr K 4 3 F3) r2 y) 4 2 c = X.2.2 c := fun c => by
    show y.2.2 c = _
    rw [hy.2.2]
  have hewx : ∀ z, va_up ew d 1 z = if z = d then 1 else ew z := fun _ => rfl
  have hnod : ∀ k, k < no → ¬ K 5 5 k = nI d := fun k hk q => by
    rcases o6 k hk with z | ⟨_, d2_, z1, z2, z3, _⟩
    · rw [z] at q
      exact nI_neg1 (a := d) (by omega) q.symm
    · have : d2_ = d := (nI_eq (by omega) (by omega)).mp (z2.symm.trans q)
      rw [this] at z3
      omega
  unfold RR
  refine ⟨np1, np2, np3, nc1, nc2, nc3, nc4, nd1, nd2, nd3, nd4, no1, no2, no3, no4, ns1, ns2, ns3, lc0, lc1, lc2, lc3, l0, l1, l2, pl, sd, hs_, av, ab, c0, c1, ?q_c2, ?q_c3, c4, c6, ?q_c7, ?q_g1, ?q_g2, ?q_g3, ?q_g4, ?q_g5, ?q_g6, ?q_g7, ?q_g8, ?q_g9, d1, d2, d3, d4, d5, d6, dt, d7, d8, d9, d10, d11, ?q_d12, ?q_d13, d14, z0, n1, n0, n2, n5, n6, o1, o2, o3, o4, o5, ?q_o6, ?q_o7, ow, o8, ?q_o9⟩
  case q_c2 =>
    intro c hc
    rw [e42]
    show X.2.2 c = Z.2.2 c ∧ _
    refine ⟨hRR.2.2 c hc, ?_⟩
    by_cases z : K 4 5 c = nI d
    · obtain ⟨s, w1, i, w2, w3⟩ := c6 c hc d hd z
      have := hin s w1 i w2
      rw [w3] at this
      rw [this]
      obtain ⟨_, _, pa, pb, hpa, hpb, _, p7, p8⟩ := d1 d hd
      by_cases v : w = -1
      · rw [if_pos v]
        rcases w1 with w1 | w1
        · exact ⟨pa, hpa, by rw [w1]; exact p7⟩
        · exact ⟨pb, hpb, by rw [w1]; exact p8⟩
      · rw [if_neg v]
        rcases hw with u | u | u
        · exact absurd u v
        · exact ⟨pa, hpa, by rw [u]; exact p7⟩
        · exact ⟨pb, hpb, by rw [u]; exact p8⟩
    · rw [ow_out c z]
      exact (c2 c hc).2
  case q_c3 =>
    intro c hc
    obtain ⟨y1, y2⟩ := c3 c hc
    rw [e43]
    show F3 c = F8 c ∧ _
    rw [← hF3, ← hF8]
    by_cases z : K 4 5 c = nI d
    · rw [st_in _ c hc z, st_in _ c hc z]
      refine ⟨rfl, Or.inr ?_⟩
      rcases y2 with v | ⟨v, d2_, v1, v2, v3⟩
      · rw [v.2] at z
        exact absurd z.symm (nI_neg1 (by omega))
      · have : d2_ = d := (nI_eq (by omega) (by omega)).mp (v2.symm.trans z)
        exact ⟨v, d, hd, z, Or.inr ⟨by rw [hewx, if_pos rfl], rfl⟩⟩
    · rw [st_out _ c z, st_out _ c z]
      refine ⟨y1, y2.imp id (fun v => ⟨v.1, ?_⟩)⟩
      obtain ⟨d2_, v1, v2, v3⟩ := v.2
      refine ⟨d2_, v1, v2, ?_⟩
      rw [hewx, if_neg (fun u => z (by rw [← u]; exact v2))]
      exact v3
  case q_c7 =>
    intro d2_ hd2 q
    refine c7 d2_ hd2 (fun z => q ?_)
    rw [hewx, if_neg (fun u => by rw [u] at z; omega)]
    exact z
  case q_g1 =>
    show nI y.1 = _
    rw [hy.1]
  case q_g2 =>
    show nI Z.1 = _
    rw [← hRR.1]
  case q_g3 => exact rfl
  case q_g4 => exact hr2
  case q_g5 => exact hr3
  case q_g6 =>
    intro j hj
    show y.2.1 j = Z.2.1 j
    rw [hy.2.1 j hj]
    exact hRR.2.1 j hj
  case q_g7 =>
    intro c hc
    have := hL_f hy hLL c hc
    rw [hy.1] at this
    exact this
  case q_g8 =>
    show X.1 + cntE (K 5 4) 98 no + 8 * (np + nd + sumN cn (2 * nd)) + 7 * nc ≤ 8 * (e + 1)
    have := (d7 sP (by omega)).2.2.1
    omega
  case q_g9 =>
    rcases g9 with z | z
    · exact Or.inl z
    · have := (d7 sP (by omega)).2.2.1
      rcases (by omega : cn sP = 8 ∨ cn sP ≤ 7) with v | v
      · exact Or.inl ⟨sP, by omega, v⟩
      · exact Or.inr (by show X.1 + cntE (K 5 4) 98 no ≤ 7 * (e + 1); omega)
  case q_d12 =>
    intro d2_ hd2 q s hs i hi
    refine d12 d2_ hd2 (fun z => q ?_) s hs i hi
    rw [hewx, if_neg (fun u => by rw [u] at z; omega)]
    exact z
  case q_d13 =>
    intro d2_ hd2 q s hs i hi
    rw [hewx] at q
    have hne : d2_ ≠ d := fun z => by rw [if_pos z] at q; omega
    rw [if_neg hne] at q
    have h45 := d12 d2_ hd2 (by omega) s hs i hi
    rw [e42, ow_out _ (fun z => hne ((nI_eq (by omega) (by omega)).mp (h45.symm.trans z)))]
    exact d13 d2_ hd2 q s hs i hi
  case q_o6 =>
    intro k hk
    rcases o6 k hk with v | ⟨v1, d2_, v2, v3, v4, v5⟩
    · exact Or.inl v
    · refine Or.inr ⟨v1, d2_, v2, v3, ?_, v5⟩
      rw [hewx, if_neg (fun u => by rw [u] at v4; omega)]
      exact v4
  case q_o7 =>
    intro k hk q
    obtain ⟨c, v1, v2, v3, v4, v5⟩ := o7 k hk q
    have hnd : ¬ K 4 5 c = nI d := fun z => by
      rcases (c3 c v1).2 with u | ⟨_, d2_, u1, u2, u3⟩
      · rw [u.2] at z
        exact nI_neg1 (a := d) (by omega) z.symm
      · have : d2_ = d := (nI_eq (by omega) (by omega)).mp (u2.symm.trans z)
        rw [this] at u3
        rcases u3 with u3 | u3
        · exact v5 u3.2
        · omega
    refine ⟨c, v1, v2, v3, ?_, ?_⟩
    · rw [e42, ow_out c hnd]
      exact v4
    · rw [e43, ← hF3, st_out _ c hnd]
      exact v5
  case q_o9 =>
    intro d2_ hd2 q
    rw [hewx] at q
    show ChOk (K 5 5) (K 5 0) (K 5 3) (K 5 2) sl d2_ (ChB cn sk (K 6 3) (K 7 0) d2_) ns ((kH (kr K 4 3 F3) r2 y) 4 2)
    by_cases hne : d2_ = d
    · subst hne
      refine ch_base ns _ (fun j hj => hnod _ (o8 j hj).2.1) (fun s hs i hi => ?_)
      rw [e42, hw3]
      exact hin s hs i hi
    · rw [if_neg hne] at q
      refine ch_gen (D := fun c => ¬ K 4 5 c = nI d) (fun o o2 ho hB s hs i hi => ?_) ns (fun j hj => ⟨Iff.rfl, fun v => ⟨rfl, rfl, rfl, ?_⟩⟩) (K 4 2) _ (fun c hc => by rw [e42]; exact ow_out c hc) (o9 d2_ hd2 q)
      · have h45 := d12 d2_ hd2 (by omega) s hs i hi
        rw [ho _ (fun z => hne ((nI_eq (by omega) (by omega)).mp (h45.symm.trans z)))]
        exact hB s hs i hi
      · rcases o6 (sl j) (o8 j hj).2.1 with u | ⟨_, d3_, u1, u2, u3, c3_, u4, u5, u6⟩
        · rw [u] at v
          exact absurd v.symm (nI_neg1 (by omega))
        · rw [u5, nI_clamp (by omega)]
          intro z
          rw [u6] at z
          rw [u2] at v
          exact hne ((nI_eq (by omega) (by omega)).mp (v.symm.trans z))
