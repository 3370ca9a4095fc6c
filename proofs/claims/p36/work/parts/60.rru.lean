/-! The relation behind phase 1 of a roll back. -/
theorem rr_undo {t np nc nd no ns P r : Nat} {cn sn dp ew go bl sl : Nat → Nat} {sk : Nat → Nat → Nat} {K M : KS} {ap : Int64} {d r2 : Nat} {y : LXp} {F3 F8 : Nat → Int32} {Q : (Nat → Int32) × (Nat → Int32)} {X Z : LXp} (h : RR t t np nc nd no ns P r cn sn dp ew ew go bl sl sk K M ap) (ht : t < 512) (hd : d < nd) (hw : ew d = 1) (hF3 : F3 = stF (sk (2 * d + 1)) 115 0 (cn (2 * d + 1)) (stF (sk (2 * d)) 115 0 (cn (2 * d)) (K 4 3))) (hF8 : F8 = stF (sk (2 * d + 1)) 115 0 (cn (2 * d + 1)) (stF (sk (2 * d)) 115 0 (cn (2 * d)) (M 13 8))) (hQ : Q = qF (sk (2 * d + 1)) 0 (cn (2 * d + 1)) (qF (sk (2 * d)) 0 (cn (2 * d)) (sE K d (rv sl ns) (M 13 32) ns, M 16 10))) (hX : X = xF cn sk d (K 7 0 (2 * d)) (K 7 0 (2 * d + 1)) (uX K d (rv sl ns) (P, K 11 0, K 4 2) ns)) (hZ : Z = xF cn sk d (K 7 0 (2 * d)) (K 7 0 (2 * d + 1)) (uX K d (rv sl ns) (P, M 16 12, M 16 7) ns)) (hr2 : rOK r2) (hr3 : 3 * X.1 ≤ r2) (hy : hRf y X) : RR (t+1) (t+1) np nc nd no ns (X.1) r2 cn sn dp (va_up ew d 0) ew go bl sl sk (kH (kr (oZ (uP K d (rv sl ns) ns) d no) 4 3 F3) r2 y) (mH (mR (mV M K d (rv sl ns) ns) F8 Q) Z) ((K 0 4 0 - sumI (fun i => fPr K d (rv sl ns i)) ns).toInt64) := by
  obtain ⟨u1, u2, u3, u4, u5, u6⟩ := un_base h hd
  obtain ⟨f1, f2, f3, f4, f5⟩ := un_facts h hd hw (by omega)
  rw [← hX] at f2 f3 f4 f5
  have hx := rr_up (Nat.le_succ t) (Nat.le_succ t) h
  have hab0 := rx_ab h
  have g80 := rx_g8 h
  have g90 := rx_g9 h
  obtain ⟨np1, np2, np3, nc1, nc2, nc3, nc4, nd1, nd2, nd3, nd4, no1, no2, no3, no4, ns1, ns2, ns3, lc0, lc1, lc2, lc3, l0, l1, l2, pl, sd, hs_, av, ab, c0, c1, c2, c3, c4, c6, c7, g1, g2, g3, g4, g5, g6, g7, g8, g9, d1, d2, d3, d4, d5, d6, dt, d7, d8, d9, d10, d11, d12, d13, d14, z0, n1, n0, n2, n5, n6, o1, o2, o3, o4, o5, o6, o7, ow, o8, o9⟩ := hx
  have hc5 : ∀ j, j < ns → (K 5 0 (rv sl ns j)).toNatClampNeg < nc := fun j hj => by
    obtain ⟨c, y1, y2, _⟩ := o1 _ (u1 j hj).1
    rw [y2, nI_clamp (by omega)]
    exact y1
  have hsk0 : ∀ s, (s = 2 * d ∨ s = 2 * d + 1) → ∀ j, j < 0 + cn s → sk s j < nc := fun s hs j hj => (d8 s (by omega) j (by omega)).2.2
  have hRR : hR nc X Z := by
    rw [hX, hZ]
    exact hF_R _ _ _ _ (hsk0 _ (Or.inr rfl)) (hF_R _ _ _ _ (hsk0 _ (Or.inl rfl)) (uX_R (x := (P, K 11 0, K 4 2)) (y := (P, M 16 12, M 16 7)) (n := nc) (ns := ns) hc5 ⟨rfl, g6, fun i hi => (c2 i hi).1⟩ ns (Nat.le_refl ns)))
  have hLL : hL nc X := by
    rw [hX]
    exact hF_L (by omega) _ _ _ (hsk0 _ (Or.inr rfl)) (hF_L (by omega) _ _ _ (hsk0 _ (Or.inl rfl)) (uX_L (x := (P, K 11 0, K 4 2)) (n := nc) (ns := ns) (by omega) hc5 g7 ns (Nat.le_refl ns)))
  have hq2 : ew d ≠ 2 := by omega
  have hewx : ∀ z, va_up ew d 0 z = if z = d then 0 else ew z := fun _ => rfl
  have hnl : ∀ c, ¬ K 4 5 c = nI d → ∀ s, (s = 2 * d ∨ s = 2 * d + 1) → ∀ j, j < cn s → sk s j ≠ c := fun c q s hs j hj e => q (by rw [← e]; exact d12 d hd hq2 s hs j hj)
  have st_in : ∀ (f : Nat → Int32) c, c < nc → K 4 5 c = nI d → stF (sk (2 * d + 1)) 115 0 (cn (2 * d + 1)) (stF (sk (2 * d)) 115 0 (cn (2 * d)) f) c = 115 := fun f c hc q => by
    obtain ⟨s, w1, i, w2, w3⟩ := c6 c hc d hd q
    rcases w1 with w1 | w1
    · by_cases z : ∃ j, 0 ≤ j ∧ j < 0 + cn (2 * d + 1) ∧ sk (2 * d + 1) j = c
      · exact stF_in _ _ _ _ z
      · rw [stF_out _ _ _ _ (fun j a b e => z ⟨j, a, b, e⟩)]
        exact stF_in _ _ _ _ ⟨i, by omega, by rw [← w1]; omega, by rw [← w1]; exact w3⟩
    · exact stF_in _ _ _ _ ⟨i, by omega, by rw [← w1]; omega, by rw [← w1]; exact w3⟩
  have st_out : ∀ (f : Nat → Int32) c, ¬ K 4 5 c = nI d → stF (sk (2 * d + 1)) 115 0 (cn (2 * d + 1)) (stF (sk (2 * d)) 115 0 (cn (2 * d)) f) c = f c := fun f c q => by
    rw [stF_out _ _ _ _ (fun j _ b => hnl c q _ (Or.inr rfl) j (by omega)), stF_out _ _ _ _ (fun j _ b => hnl c q _ (Or.inl rfl) j (by omega))]
  have q2_in : ∀ c, c < nc → K 4 5 c = nI d → Q.2 c = -1 := fun c hc q => by
    obtain ⟨s, w1, i, w2, w3⟩ := c6 c hc d hd q
    rw [hQ]
    rcases w1 with w1 | w1
    · exact qF_in2 _ _ _ (Or.inl (qF_in2 _ _ _ (Or.inr ⟨i, by omega, by rw [← w1]; omega, by rw [← w1]; exact w3⟩)))
    · exact qF_in2 _ _ _ (Or.inr ⟨i, by omega, by rw [← w1]; omega, by rw [← w1]; exact w3⟩)
  have q2_out : ∀ c, ¬ K 4 5 c = nI d → Q.2 c = M 16 10 c := fun c q => by
    rw [hQ, qF_out2 _ _ _ (fun j _ b => hnl c q _ (Or.inr rfl) j (by omega)), qF_out2 _ _ _ (fun j _ b => hnl c q _ (Or.inl rfl) j (by omega))]
  have q1_in : ∀ k c, k < no → c < nc → K 4 5 c = nI d → M 16 10 c = nI k → Q.1 k = 103 := fun k c hk hc q e => by
    obtain ⟨s, w1, i, w2, w3⟩ := c6 c hc d hd q
    rw [hQ]
    rcases w1 with w1 | w1
    · subst w1
      refine qF_keep _ _ _ (qF_in1 (by omega) _ _ _ ⟨i, by omega, by omega, ?_⟩)
      rw [w3]
      exact e
    · subst w1
      refine qF_in1 (by omega) _ _ _ ⟨i, by omega, by omega, ?_⟩
      rw [qF_out2 _ _ _ (fun j _ b z => by
        have := (d14 d hd (2 * d) (2 * d + 1) (Or.inl rfl) (Or.inr rfl) j i (by omega) w2 z).1
        omega), w3]
      exact e
  have qok : qOK nc (sE K d (rv sl ns) (M 13 32) ns, M 16 10) := fun c hc => by
    rcases c4 c hc with z | ⟨k, k1, k2, _⟩
    · exact Or.inl z.1
    · exact Or.inr ⟨k, by omega, k2⟩
  have q1_out : ∀ k, k < no → (∀ c, c < nc → K 4 5 c = nI d → M 16 10 c ≠ nI k) → Q.1 k = sE K d (rv sl ns) (M 13 32) ns k := fun k hk q => by
    have hs : ∀ s, (s = 2 * d ∨ s = 2 * d + 1) → ∀ j, j < cn s → M 16 10 (sk s j) ≠ nI k := fun s hs j hj => q _ (hsk0 s hs j (by omega)) (d12 d hd hq2 s hs j hj)
    rw [hQ, qF_out1 (nq := nc) (by omega) _ _ _ (qF_ok _ _ _ qok) (hsk0 _ (Or.inr rfl)) (fun j _ b => by
      rw [qF_out2 _ _ _ (fun i _ b2 z => by
        have := (d14 d hd (2 * d) (2 * d + 1) (Or.inl rfl) (Or.inr rfl) i j (by omega) (by omega) z).1
        omega)]
      exact hs _ (Or.inr rfl) j (by omega)), qF_out1 (nq := nc) (by omega) _ _ _ qok (hsk0 _ (Or.inl rfl)) (fun j _ b => hs _ (Or.inl rfl) j (by omega))]
  have sf1 : ∀ k, k < no → K 5 5 k = nI d → sF K d (rv sl ns) ns k = 103 ∧ sE K d (rv sl ns) (M 13 32) ns k = 103 := fun k hk q => by
    rw [sE_sF]
    exact ⟨sE_hit q ns (u3 k hk q), sE_hit q ns (u3 k hk q)⟩
  have sf2 : ∀ k, k < no → ¬ K 5 5 k = nI d → sF K d (rv sl ns) ns k = K 5 4 k ∧ sE K d (rv sl ns) (M 13 32) ns k = K 5 4 k := fun k hk q => by
    rw [sE_sF, sE_not q, sE_not q]
    exact ⟨rfl, (o3 k hk).1.symm⟩
  have k54 : ∀ k, k < no → (kH (kr (oZ (uP K d (rv sl ns) ns) d no) 4 3 F3) r2 y) 5 4 k = if sF K d (rv sl ns) ns k = 111 ∧ K 4 5 (K 5 0 k).toNatClampNeg = nI d then 103 else sF K d (rv sl ns) ns k := fun k hk => oF_if no hk
  have wf1 : ∀ k, k < no → K 5 5 k = nI d → wF K d (rv sl ns) ns k = -1 := fun k hk q => wF_hit q ns (u3 k hk q)
  have wf2 : ∀ k, ¬ K 5 5 k = nI d → wF K d (rv sl ns) ns k = K 5 5 k := fun k q => wF_not q ns
  have k55 : ∀ k, (kH (kr (oZ (uP K d (rv sl ns) ns) d no) 4 3 F3) r2 y) 5 5 k = wF K d (rv sl ns) ns k := fun _ => rfl
  have e43 : ∀ c, (kH (kr (oZ (uP K d (rv sl ns) ns) d no) 4 3 F3) r2 y) 4 3 c = F3 c := fun _ => rfl
  have e42 : ∀ c, (kH (kr (oZ (uP K d (rv sl ns) ns) d no) 4 3 F3) r2 y) 4 2 c = X.2.2 c := fun c => by
    show y.2.2 c = _
    rw [hy.2.2]
  have e44 : ∀ c, (kH (kr (oZ (uP K d (rv sl ns) ns) d no) 4 3 F3) r2 y) 4 4 c = oG (sF K d (rv sl ns) ns) (K 5 0) (K 4 5) (K 4 4) d no c := fun _ => rfl
  have op : ∀ k, k < no → K 5 4 k = 111 → ¬ K 5 5 k = nI d := fun k hk q z => by
    rw [(u4 k hk z).1] at q
    exact absurd q (by decide)
  have hab := fsum2 (K := K) (d := d) (sl := rv sl ns) (fun k hk => by obtain ⟨_, x, _, b, c⟩ := o2 k hk; exact ⟨x, b, c⟩) no4 ns (by omega) (fun j hj => (u1 j hj).1)
  have hcnt : cntE ((kH (kr (oZ (uP K d (rv sl ns) ns) d no) 4 3 F3) r2 y) 5 4) 98 no = cntE (sF K d (rv sl ns) ns) 98 no := cntE_cong (fun k hk => by
    rw [k54 k hk]
    by_cases z : sF K d (rv sl ns) ns k = 111 ∧ K 4 5 (K 5 0 k).toNatClampNeg = nI d
    · rw [if_pos z, z.1]
      exact ⟨fun w => absurd w (by decide), fun w => absurd w (by decide)⟩
    · rw [if_neg z])
  unfold RR
  refine ⟨np1, np2, np3, nc1, nc2, nc3, nc4, nd1, nd2, nd3, nd4, no1, no2, no3, no4, ns1, ns2, ns3, lc0, lc1, lc2, lc3, l0, l1, l2, ?q_pl, ?q_sd, hs_, ?q_av, ?q_ab, c0, c1, ?q_c2, ?q_c3, ?q_c4, c6, ?q_c7, ?q_g1, ?q_g2, ?q_g3, ?q_g4, ?q_g5, ?q_g6, ?q_g7, ?q_g8, ?q_g9, d1, d2, d3, d4, d5, d6, dt, d7, d8, d9, d10, d11, ?q_d12, ?q_d13, d14, z0, n1, n0, n2, n5, n6, o1, o2, ?q_o3, o4, ?q_o5, ?q_o6, ?q_o7, ?q_ow, ?q_o8, ?q_o9⟩
  case q_pl =>
    intro p hp
    show K 10 0 p + _ = M 16 2 p + _
    rw [pl p hp]
  case q_sd => exact cl_sdu (sl := rv sl ns) np3 (fun j hj q => (u4 _ (u1 j hj).1 q).2.2.2.2) sd ns (Nat.le_refl ns)
  case q_av => exact rfl
  case q_ab =>
    show _ ≤ (K 0 4 0 - sumI (fun i => fPr K d (rv sl ns i)) ns).toInt ∧ (K 0 4 0 - sumI (fun i => fPr K d (rv sl ns i)) ns).toInt ≤ _
    rw [sub_small rfl rfl (by omega) (by omega)]
    omega
  case q_c2 =>
    intro c hc
    rw [e42]
    show X.2.2 c = Z.2.2 c ∧ _
    refine ⟨hRR.2.2 c hc, ?_⟩
    by_cases z : K 4 5 c = nI d
    · obtain ⟨s, w1, i, w2, w3⟩ := c6 c hc d hd z
      have v := f3 s w1 i w2
      rw [w3] at v
      rw [v]
      obtain ⟨_, _, pa, pb, hpa, hpb, _, p7, p8⟩ := d1 d hd
      rcases w1 with w1 | w1
      · exact ⟨pa, hpa, by rw [w1]; exact p7⟩
      · exact ⟨pb, hpb, by rw [w1]; exact p8⟩
    · rw [f2 c z]
      exact (c2 c hc).2
  case q_c3 =>
    intro c hc
    obtain ⟨y1, y2⟩ := c3 c hc
    rw [e43]
    show F3 c = F8 c ∧ _
    rw [hF3, hF8]
    by_cases z : K 4 5 c = nI d
    · rw [st_in _ c hc z, st_in _ c hc z]
      refine ⟨rfl, Or.inr ?_⟩
      rcases y2 with v | ⟨v, d2_, v1, v2, v3⟩
      · rw [v.2] at z
        exact absurd z.symm (nI_neg1 (by omega))
      · exact ⟨v, d, hd, z, Or.inl ⟨by rw [hewx, if_pos rfl], rfl⟩⟩
    · rw [st_out _ c z, st_out _ c z]
      refine ⟨y1, y2.imp id (fun v => ⟨v.1, ?_⟩)⟩
      obtain ⟨d2_, v1, v2, v3⟩ := v.2
      refine ⟨d2_, v1, v2, ?_⟩
      rw [hewx, if_neg (fun u => z (by rw [← u]; exact v2))]
      exact v3
  case q_c4 =>
    intro c hc
    rw [e44]
    show (Q.2 c = -1 ∧ _) ∨ ∃ k, k < no ∧ Q.2 c = nI k ∧ _ ∧ K 5 0 k = nI c ∧ _
    by_cases z : K 4 5 c = nI d
    · refine Or.inl ⟨q2_in c hc z, ?_⟩
      rcases c4 c hc with v | ⟨k, v1, v2, v3, v4, v5⟩
      · by_cases w : ∃ k, k < no ∧ sF K d (rv sl ns) ns k = 111 ∧ K 4 5 (K 5 0 k).toNatClampNeg = nI d ∧ (K 5 0 k).toNatClampNeg = c
        · exact oG_hit no w
        · rw [oG_not no (fun k k1 k2 k3_ k4 => w ⟨k, k1, k2, k3_, k4⟩)]
          exact v.2
      · refine oG_hit no ⟨k, v1, ?_, ?_, ?_⟩
        · rw [(sf2 k v1 (op k v1 v5)).1]
          exact v5
        · rw [v4, nI_clamp (by omega)]
          exact z
        · rw [v4, nI_clamp (by omega)]
    · rw [q2_out c z, oG_not no (fun k k1 k2 k3_ k4 => z (by rw [← k4]; exact k3_))]
      rcases c4 c hc with v | ⟨k, v1, v2, v3, v4, v5⟩
      · exact Or.inl v
      · refine Or.inr ⟨k, v1, v2, v3, v4, ?_⟩
        rw [k54 k v1, if_neg (fun w => z (by have := w.2; rw [v4, nI_clamp (by omega)] at this; exact this)), (sf2 k v1 (op k v1 v5)).1]
        exact v5
  case q_c7 =>
    intro d2_ hd2 q
    refine c7 d2_ hd2 (fun z => q ?_)
    rw [hewx, if_neg (fun u => by rw [u] at z; omega)]
    exact z
  case q_g1 =>
    show nI y.1 = _
    rw [hy.1]
  case q_g2 =>
    show nI Z.1 = _
    rw [← hRR.1]
  case q_g3 => exact rfl
  case q_g4 => exact hr2
  case q_g5 => exact hr3
  case q_g6 =>
    intro j hj
    show y.2.1 j = Z.2.1 j
    rw [hy.2.1 j hj]
    exact hRR.2.1 j hj
  case q_g7 =>
    intro c hc
    have := hL_f hy hLL c hc
    rw [hy.1] at this
    exact this
  case q_g8 =>
    rw [hcnt]
    obtain ⟨s, s1, s2⟩ := f4
    have := (d7 s (by omega)).2.2.1
    omega
  case q_g9 =>
    rw [hcnt]
    obtain ⟨s, s1, s2⟩ := f4
    have := (d7 s (by omega)).2.2.1
    rcases g90 with z | z
    · exact Or.inl z
    · rcases (by omega : cn s = 8 ∨ cn s ≤ 7) with v | v
      · exact Or.inl ⟨s, by omega, v⟩
      · exact Or.inr (by omega)
  case q_d12 =>
    intro d2_ hd2 q s hs i hi
    refine d12 d2_ hd2 (fun z => q ?_) s hs i hi
    rw [hewx, if_neg (fun u => by rw [u] at z; omega)]
    exact z
  case q_d13 =>
    intro d2_ hd2 q s hs i hi
    rw [hewx] at q
    rw [e42]
    show X.2.2 (sk s i) = K 7 0 s
    by_cases z : d2_ = d
    · rw [z] at hs
      exact f3 s hs i hi
    · rw [if_neg z] at q
      have h45 := d12 d2_ hd2 (by omega) s hs i hi
      rw [f2 _ (fun w => z ((nI_eq (by omega) (by omega)).mp (h45.symm.trans w)))]
      exact d13 d2_ hd2 q s hs i hi
  case q_o3 =>
    intro k hk
    rw [k54 k hk]
    show _ = Q.1 k ∧ _
    by_cases z : sF K d (rv sl ns) ns k = 111 ∧ K 4 5 (K 5 0 k).toNatClampNeg = nI d
    · rw [if_pos z]
      have hne : ¬ K 5 5 k = nI d := fun w => by
        have := z.1
        rw [(sf1 k hk w).1] at this
        exact absurd this (by decide)
      have e4 : K 5 4 k = 111 := by rw [← (sf2 k hk hne).1]; exact z.1
      obtain ⟨c, v1, v2, v3, _⟩ := o7 k hk e4
      have z2 := z.2
      rw [v2, nI_clamp (by omega)] at z2
      exact ⟨(q1_in k c hk v1 z2 v3).symm, Or.inr (Or.inr rfl)⟩
    · rw [if_neg z, q1_out k hk (fun c hc hcd e => z ?_)]
      · by_cases w : K 5 5 k = nI d
        · rw [(sf1 k hk w).1, (sf1 k hk w).2]
          exact ⟨rfl, Or.inr (Or.inr rfl)⟩
        · rw [(sf2 k hk w).1, (sf2 k hk w).2]
          exact ⟨rfl, (o3 k hk).2⟩
      · rcases c4 c hc with v | ⟨k2, v1, v2, v3, v4, v5⟩
        · rw [v.1] at e
          exact absurd e.symm (nI_neg1 (by omega))
        · have : k2 = k := (nI_eq (by omega) (by omega)).mp (v2.symm.trans e)
          rw [this] at v4 v5
          refine ⟨by rw [(sf2 k hk (op k hk v5)).1]; exact v5, ?_⟩
          rw [v4, nI_clamp (by omega)]
          exact hcd
  case q_o5 =>
    intro k hk q
    rw [k54 k hk] at q
    have hne : ¬ K 5 5 k = nI d := fun w => by
      rw [(sf1 k hk w).1, if_neg (fun v => absurd v.1 (by decide))] at q
      exact absurd q (by decide)
    have e4 : K 5 4 k = 98 := by
      rw [(sf2 k hk hne).1] at q
      by_cases z : K 5 4 k = 111 ∧ K 4 5 (K 5 0 k).toNatClampNeg = nI d
      · rw [if_pos z] at q
        exact absurd q (by decide)
      · rw [if_neg z] at q
        exact q
    rw [k55, wf2 k hne]
    exact o5 k hk e4
  case q_o6 =>
    intro k hk
    rw [k55]
    by_cases z : K 5 5 k = nI d
    · exact Or.inl (wf1 k hk z)
    · rw [wf2 k z]
      rcases o6 k hk with v | ⟨v1, d2_, v2, v3, v4, v5⟩
      · exact Or.inl v
      · refine Or.inr ⟨?_, d2_, v2, v3, ?_, v5⟩
        · rw [k54 k hk, (sf2 k hk z).1, v1, if_neg (fun w => absurd w.1 (by decide))]
        · rw [hewx, if_neg (fun u => z (by rw [v3, u]))]
          exact v4
  case q_o7 =>
    intro k hk q
    rw [k54 k hk] at q
    have hnA : ¬ (sF K d (rv sl ns) ns k = 111 ∧ K 4 5 (K 5 0 k).toNatClampNeg = nI d) := fun z => by
      rw [if_pos z] at q
      exact absurd q (by decide)
    rw [if_neg hnA] at q
    have hne : ¬ K 5 5 k = nI d := fun w => by
      rw [(sf1 k hk w).1] at q
      exact absurd q (by decide)
    have q' := q
    rw [(sf2 k hk hne).1] at q'
    obtain ⟨c, v1, v2, v3, v4, v5⟩ := o7 k hk q'
    have hnd : ¬ K 4 5 c = nI d := fun z => hnA ⟨q, by rw [v2, nI_clamp (by omega)]; exact z⟩
    refine ⟨c, v1, v2, ?_, ?_, ?_⟩
    · show Q.2 c = nI k
      rw [q2_out c hnd]
      exact v3
    · rw [e42, f2 c hnd]
      exact v4
    · rw [e43, hF3, st_out _ c hnd]
      exact v5
  case q_ow =>
    intro k hk q
    rw [k54 k hk] at q
    refine ow k hk ?_
    have hnA : ¬ (sF K d (rv sl ns) ns k = 111 ∧ K 4 5 (K 5 0 k).toNatClampNeg = nI d) := fun z => by
      rw [if_pos z] at q
      exact absurd q (by decide)
    rw [if_neg hnA] at q
    by_cases w : K 5 5 k = nI d
    · rw [(sf1 k hk w).1] at q
      exact absurd q (by decide)
    · rw [(sf2 k hk w).1] at q
      exact q
  case q_o8 =>
    intro j hj
    obtain ⟨v1, v2, v3, v4⟩ := o8 j hj
    refine ⟨v1, v2, v3, ?_⟩
    rw [k54 _ v2]
    by_cases w : K 5 5 (sl j) = nI d
    · rw [(sf1 _ v2 w).1, if_neg (fun z => absurd z.1 (by decide))]
      decide
    · rw [(sf2 _ v2 w).1, if_neg (fun z => v4 z.1)]
      exact v4
  case q_o9 =>
    intro d2_ hd2 q
    rw [hewx] at q
    have hne : d2_ ≠ d := fun z => by rw [if_pos z] at q; omega
    rw [if_neg hne] at q
    show ChOk (wF K d (rv sl ns) ns) (K 5 0) (K 5 3) (K 5 2) sl d2_ (ChB cn sk (K 6 3) (K 7 0) d2_) ns ((kH (kr (oZ (uP K d (rv sl ns) ns) d no) 4 3 F3) r2 y) 4 2)
    have hiff : ∀ j, j < ns → (wF K d (rv sl ns) ns (sl j) = nI d2_ ↔ K 5 5 (sl j) = nI d2_) := fun j hj => by
      by_cases z : K 5 5 (sl j) = nI d
      · rw [wf1 _ (o8 j hj).2.1 z, z]
        exact ⟨fun w => absurd w.symm (nI_neg1 (by omega)), fun w => absurd ((nI_eq (by omega) (by omega)).mp w).symm hne⟩
      · rw [wf2 _ z]
    refine ch_gen (D := fun c => ¬ K 4 5 c = nI d) (fun o o2 ho hB s hs i hi => ?_) ns (fun j hj => ⟨hiff j hj, fun v => ⟨rfl, rfl, rfl, ?_⟩⟩) (K 4 2) _ (fun c hc => by rw [e42]; exact f2 c hc) (o9 d2_ hd2 q)
    · have h45 := d12 d2_ hd2 (by omega) s hs i hi
      rw [ho _ (fun z => hne ((nI_eq (by omega) (by omega)).mp (h45.symm.trans z)))]
      exact hB s hs i hi
    · have v' : K 5 5 (sl j) = nI d2_ := by
        first
          | exact v
          | exact (hiff j hj).mp v
      rcases o6 (sl j) (o8 j hj).2.1 with u | ⟨_, d3_, u1_, u2_, u3_, c3_, u4_, u5_, u6_⟩
      · rw [u] at v'
        exact absurd v'.symm (nI_neg1 (by omega))
      · rw [u5_, nI_clamp (by omega)]
        intro z
        rw [u6_] at z
        rw [u2_] at v'
        exact hne ((nI_eq (by omega) (by omega)).mp (v'.symm.trans z))
