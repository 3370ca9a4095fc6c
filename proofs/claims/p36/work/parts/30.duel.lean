/-! duel -/
theorem kd6 (K : KS) (x1 x2 : Int32) (b c : Nat) : kDuel K x1 x2 6 b c = if c = nD K then (if b = 2 then 111 else if b = 3 then -1 else 0) else K 6 b c := by
  unfold kDuel
  simp
theorem kd7 (K : KS) (x1 x2 : Int32) (b c : Nat) : kDuel K x1 x2 7 b c = if c = 2 * nD K then (if b = 0 then x1 else 10) else if c = 2 * nD K + 1 then (if b = 0 then x2 else 10) else K 7 b c := by
  unfold kDuel
  simp
theorem kd8 (K : KS) (x1 x2 : Int32) (b c : Nat) : kDuel K x1 x2 8 b c = if c = 2 * nD K + 4 ∨ c = 2 * nD K + 5 then 0 else K 8 b c := by
  unfold kDuel
  simp
theorem kd17 (K : KS) (x1 x2 : Int32) (b c : Nat) : kDuel K x1 x2 17 b c = if b = nD K then 0 else K 17 b c := by
  unfold kDuel
  simp
theorem kd18 (K : KS) (x1 x2 : Int32) (b c : Nat) : kDuel K x1 x2 18 b c = if b = 2 * nD K ∨ b = 2 * nD K + 1 then 0 else K 18 b c := by
  unfold kDuel
  simp
theorem kd19 (K : KS) (x1 x2 : Int32) (b c : Nat) : kDuel K x1 x2 19 b c = if 6 * nD K ≤ b ∧ b < 6 * nD K + 6 then 0 else K 19 b c := by
  unfold kDuel
  simp
theorem kd20 (K : KS) (x1 x2 : Int32) (b c : Nat) : kDuel K x1 x2 20 b c = if 6 * nD K ≤ b ∧ b < 6 * nD K + 6 then 0 else K 20 b c := by
  unfold kDuel
  simp
/-- a player is in a duel that has not ended -/
def bzd (K : KS) (p : Int32) (d : Nat) : Prop := (K 6 2 d = 111 ∨ K 6 2 d = 103) ∧ (K 7 0 (2 * d) = p ∨ K 7 0 (2 * d + 1) = p)
theorem cl_busyN {post : Int32 → Prop} {K : KS} {nd : Nat} {p : Int32} (h1 : K 8 2 1 = nI nd) (h2 : nD K = nd) (h3 : lcp (K 8 3 1) nd) (h4 : nd ≤ 8) (h5 : ∀ j, j < nd → K 9 1 j = nI j) (hb : ∀ d, d < nd → bzd K p d → post 1) (hn : (∀ d, d < nd → ¬ bzd K p d) → post 0) : ∀ r i, i + r = nd → (∀ d, d < i → ¬ bzd K p d) → wX6_isBusyN_2 post (r + 1) p (nI i) K := by
  intro r
  induction r with
  | zero =>
    intro i hi hq
    unfold wX6_isBusyN_2
    exact ⟨fun _ => hn (fun d hd => hq d (by omega)), fun c => absurd (by rw [h1]; exact nI_le (by omega) (by omega)) c⟩
  | succ r ih =>
    intro i hi hq
    have e : (K 9 1 (nI i).toNatClampNeg).toNatClampNeg = i := by rw [nI_clamp (by omega), h5 i (by omega), nI_clamp (by omega)]
    have hi2 : i < nD K := by omega
    have go : ¬ bzd K p i → wX6_isBusyN_51 post (wX6_isBusyN_2 post (r + 1)) p (nI i) K := by
      intro z
      unfold wX6_isBusyN_51
      rw [nI_1]
      exact ih (i + 1) (by omega) (fun d hd => by
        rcases Nat.lt_or_ge d i with y | y
        · exact hq d y
        · rw [show d = i by omega]
          exact z)
    unfold wX6_isBusyN_2 wpX2_hasNotEnded wpX2_isOf
    rw [e]
    have y1 : (K 6 2 i = 111 ∨ K 6 2 i = 103) → i < nD K ∧ (K 7 0 (2 * i) = p → ((1 : Int32) = 0 → wX6_isBusyN_51 post (wX6_isBusyN_2 post (r + 1)) p (nI i) K) ∧ (¬ (1 : Int32) = 0 → post 1)) ∧ (¬ K 7 0 (2 * i) = p → (¬ K 7 0 (2 * i + 1) = p → ((0 : Int32) = 0 → wX6_isBusyN_51 post (wX6_isBusyN_2 post (r + 1)) p (nI i) K) ∧ (¬ (0 : Int32) = 0 → post 1)) ∧ (K 7 0 (2 * i + 1) = p → ((1 : Int32) = 0 → wX6_isBusyN_51 post (wX6_isBusyN_2 post (r + 1)) p (nI i) K) ∧ (¬ (1 : Int32) = 0 → post 1))) := by
      intro z
      refine ⟨hi2, fun q => ⟨fun w => absurd w (by decide), fun _ => hb i (by omega) ⟨z, Or.inl q⟩⟩, fun q => ⟨fun q2 => ⟨fun _ => go (fun w => w.2.elim q q2), fun w => absurd rfl w⟩, fun q2 => ⟨fun w => absurd w (by decide), fun _ => hb i (by omega) ⟨z, Or.inr q2⟩⟩⟩⟩
    refine ⟨fun c => absurd (by rw [← h1]; exact c) (nI_ge (a := i) (b := nd) (by omega) (by omega)), fun _ => ⟨ok_get h1 h3 (by omega) (by omega), hi2, hi2, fun q => ⟨fun w => absurd w (by decide), fun _ => y1 (Or.inl q)⟩, fun q => ⟨fun q2 => ⟨fun _ => go (fun w => w.1.elim q q2), fun w => absurd rfl w⟩, fun q2 => ⟨fun w => absurd w (by decide), fun _ => y1 (Or.inr q2)⟩⟩⟩⟩
theorem cl_busy {post : Int32 → Prop} {K : KS} {nd but : Nat} {p : Int32} (h1 : K 8 2 1 = nI nd) (h2 : nD K = nd) (h3 : lcp (K 8 3 1) nd) (h4 : nd ≤ 8) (h5 : ∀ j, j < nd → K 9 1 j = nI j) (hbut : but < nd) (hb : ∀ d, d < nd → d ≠ but → bzd K p d → post 1) (hn : (∀ d, d < nd → d ≠ but → ¬ bzd K p d) → post 0) : ∀ r i, i + r = nd → (∀ d, d < i → d ≠ but → ¬ bzd K p d) → wX6_isBusy_2 post (r + 1) p but (nI i) K := by
  intro r
  induction r with
  | zero =>
    intro i hi hq
    unfold wX6_isBusy_2
    exact ⟨fun _ => hn (fun d hd => hq d (by omega)), fun c => absurd (by rw [h1]; exact nI_le (by omega) (by omega)) c⟩
  | succ r ih =>
    intro i hi hq
    have e : (K 9 1 (nI i).toNatClampNeg).toNatClampNeg = i := by rw [nI_clamp (by omega), h5 i (by omega), nI_clamp (by omega)]
    have hi2 : i < nD K := by omega
    have go : (i ≠ but → ¬ bzd K p i) → wX6_isBusy_51 post (wX6_isBusy_2 post (r + 1)) p but (nI i) K := by
      intro z
      unfold wX6_isBusy_51
      rw [nI_1]
      exact ih (i + 1) (by omega) (fun d hd => by
        rcases Nat.lt_or_ge d i with y | y
        · exact hq d y
        · rw [show d = i by omega]
          exact z)
    unfold wX6_isBusy_2 wpX2_hasNotEnded wpX2_isOf
    rw [e]
    have y1 : ¬ i = but → (K 6 2 i = 111 ∨ K 6 2 i = 103) → i < nD K ∧ (K 7 0 (2 * i) = p → ((1 : Int32) = 0 → wX6_isBusy_51 post (wX6_isBusy_2 post (r + 1)) p but (nI i) K) ∧ (¬ (1 : Int32) = 0 → post 1)) ∧ (¬ K 7 0 (2 * i) = p → (¬ K 7 0 (2 * i + 1) = p → ((0 : Int32) = 0 → wX6_isBusy_51 post (wX6_isBusy_2 post (r + 1)) p but (nI i) K) ∧ (¬ (0 : Int32) = 0 → post 1)) ∧ (K 7 0 (2 * i + 1) = p → ((1 : Int32) = 0 → wX6_isBusy_51 post (wX6_isBusy_2 post (r + 1)) p but (nI i) K) ∧ (¬ (1 : Int32) = 0 → post 1))) := by
      intro zb z
      refine ⟨hi2, fun q => ⟨fun w => absurd w (by decide), fun _ => hb i (by omega) zb ⟨z, Or.inl q⟩⟩, fun q => ⟨fun q2 => ⟨fun _ => go (fun _ w => w.2.elim q q2), fun w => absurd rfl w⟩, fun q2 => ⟨fun w => absurd w (by decide), fun _ => hb i (by omega) zb ⟨z, Or.inr q2⟩⟩⟩⟩
    refine ⟨fun c => absurd (by rw [← h1]; exact c) (nI_ge (a := i) (b := nd) (by omega) (by omega)), fun _ => ⟨ok_get h1 h3 (by omega) (by omega), hi2, by omega, fun q => go (fun w => absurd q w), fun zb => ⟨hi2, fun q => ⟨fun w => absurd w (by decide), fun _ => y1 zb (Or.inl q)⟩, fun q => ⟨fun q2 => ⟨fun _ => go (fun _ w => w.1.elim q q2), fun w => absurd rfl w⟩, fun q2 => ⟨fun w => absurd w (by decide), fun _ => y1 zb (Or.inr q2)⟩⟩⟩⟩⟩
-- k rows
theorem k_duel {t np nc nd no : Nat} {sn : Nat → Nat} {K : KS} {G : Int32 → KS → Prop} {p1 p2 p3 : Int32} (ht : t < 512) (hI : V36 t np nc nd no sn K) (hf : ∀ v : Int32, v < 0 → G v K) (hK : ∀ K', V36 (t+1) np nc (nd+1) no sn K' → SM K K' → nd < 8 → G (nI nd) K') : wpL_c8 G 50 1000 K p1 p2 p3 := by
  obtain ⟨ns, P, r, cn, dp, ew, go, bl, sl, sk, M, ap, h⟩ := hI
  have np1 := rx_np1 h
  have np2 := rx_np2 h
  have np3 := rx_np3 h
  have nd1 := rx_nd1 h
  have nd2 := rx_nd2 h
  have nd3 := rx_nd3 h
  have nd4 := rx_nd4 h
  have lc1 := rx_lc1 h
  have l1 := rx_l1 h
  have d1 := rx_d1 h
  have d2 := rx_d2 h
  have hD : nD K = nd := nD_of nd2 (by omega)
  unfold wpL_c8 wpX6_duel
  refine ⟨1, 6, by omega, by omega, nd_player (fun z => ?_) (fun _ => ⟨by omega, by omega, xI (hf _ (by decide))⟩)⟩
  · rw [np1] at z
    obtain ⟨a, ha, rfl⟩ := nI_inN (by omega) z.1 z.2
    refine ⟨1, 6, by omega, by omega, nd_player (fun z => ?_) (fun _ => ⟨by omega, by omega, xI (hf _ (by decide))⟩)⟩
    · rw [np1] at z
      obtain ⟨b, hb, rfl⟩ := nI_inN (by omega) z.1 z.2
      refine ⟨fun hne => ?_, fun heq => ⟨by omega, by omega, xA (hf _ (by decide))⟩⟩
      unfold wpX6_isBusyN
      refine ⟨nd + 1, cl_busyN nd1 hD lc1 nd4 l1 (fun d hd y => ⟨fun _ => ⟨by omega, by omega, xS (hf _ (by decide))⟩, fun q => absurd q (by decide)⟩) (fun z1 => ⟨fun q => absurd rfl q, fun _ => ?_⟩) nd 0 (by omega) (fun d hd => absurd hd (Nat.not_lt_zero d))⟩
      refine ⟨nd + 1, cl_busyN nd1 hD lc1 nd4 l1 (fun d hd y => ⟨fun q => absurd q (by decide), fun _ => ⟨by omega, by omega, xS (hf _ (by decide))⟩⟩) (fun z2 => ⟨fun _ => ⟨fun q3 => ?_, fun q3 => ⟨by omega, by omega, xS (hf _ (by decide))⟩⟩, fun q => absurd rfl q⟩) nd 0 (by omega) (fun d hd => absurd hd (Nat.not_lt_zero d))⟩
      · rw [nd1] at q3
        have hn8 : nd < 8 := (nI_ltI (b := 8) (by omega) (by omega)).mp q3
        have hab : a ≠ b := fun q => hne (by rw [q])
        have hz : RR (t+1) (t+1) np nc (nd+1) no ns P r (va_up (va_up cn (2 * nd) 0) (2 * nd + 1) 0) sn (va_up dp nd 0) (va_up ew nd 0) (va_up ew nd 0) (va_up go nd 0) bl sl sk (lAdd (kDuel K (nI a) (nI b)) 1 nd) (k3 (k3 (k3 (k3 (k3 (k3 (k3 M 3 0 0 0) 16 14 nd (nI a)) 16 15 nd (nI b)) 13 16 nd 111) 16 18 (2 * nd) 10) 16 18 (2 * nd + 1) 10) 3 13 0 (nI (nd + 1))) ap := by
          have hx := rr_up (Nat.le_succ t) (Nat.le_succ t) h
          obtain ⟨np1, np2, np3, nc1, nc2, nc3, nc4, nd1, nd2, nd3, nd4, no1, no2, no3, no4, ns1, ns2, ns3, lc0, lc1, lc2, lc3, l0, l1, l2, pl, sd, hs_, av, ab, c0, c1, c2, c3, c4, c6, c7, g1, g2, g3, g4, g5, g6, g7, g8, g9, d1, d2, d3, d4, d5, d6, dt, d7, d8, d9, d10, d11, d12, d13, d14, z0, n1, n0, n2, n5, n6, o1, o2, o3, o4, o5, o6, o7, ow, o8, o9⟩ := hx
          have f6 : ∀ x c, (lAdd (kDuel K (nI a) (nI b)) 1 nd) 6 x c = if c = nd then (if x = 2 then 111 else if x = 3 then -1 else 0) else K 6 x c := fun x c => (kd6 K (nI a) (nI b) x c).trans (by rw [hD])
          have f7 : ∀ x c, (lAdd (kDuel K (nI a) (nI b)) 1 nd) 7 x c = if c = 2 * nd then (if x = 0 then nI a else 10) else if c = 2 * nd + 1 then (if x = 0 then nI b else 10) else K 7 x c := fun x c => (kd7 K (nI a) (nI b) x c).trans (by rw [hD])
          have f8 : ∀ x c, (kDuel K (nI a) (nI b)) 8 x c = if c = 2 * nd + 4 ∨ c = 2 * nd + 5 then 0 else K 8 x c := fun x c => (kd8 K (nI a) (nI b) x c).trans (by rw [hD])
          have f17 : ∀ x c, (lAdd (kDuel K (nI a) (nI b)) 1 nd) 17 x c = if x = nd then 0 else K 17 x c := fun x c => (kd17 K (nI a) (nI b) x c).trans (by rw [hD])
          have f18 : ∀ x c, (lAdd (kDuel K (nI a) (nI b)) 1 nd) 18 x c = if x = 2 * nd ∨ x = 2 * nd + 1 then 0 else K 18 x c := fun x c => (kd18 K (nI a) (nI b) x c).trans (by rw [hD])
          have f19 : ∀ x c, (lAdd (kDuel K (nI a) (nI b)) 1 nd) 19 x c = if 6 * nd ≤ x ∧ x < 6 * nd + 6 then 0 else K 19 x c := fun x c => (kd19 K (nI a) (nI b) x c).trans (by rw [hD])
          have f20 : ∀ x c, (lAdd (kDuel K (nI a) (nI b)) 1 nd) 20 x c = if 6 * nd ≤ x ∧ x < 6 * nd + 6 then 0 else K 20 x c := fun x c => (kd20 K (nI a) (nI b) x c).trans (by rw [hD])
          have e82 : ∀ m, m ≠ 1 → (lAdd (kDuel K (nI a) (nI b)) 1 nd) 8 2 m = if m = 2 * nd + 4 ∨ m = 2 * nd + 5 then 0 else K 8 2 m := fun m hm => (lAdd_82 (K := kDuel K (nI a) (nI b)) (x := nd) hm).trans (f8 2 m)
          have e83 : ∀ m, m ≠ 1 → (lAdd (kDuel K (nI a) (nI b)) 1 nd) 8 3 m = if m = 2 * nd + 4 ∨ m = 2 * nd + 5 then 0 else K 8 3 m := fun m hm => (lAdd_83 (K := kDuel K (nI a) (nI b)) (x := nd) hm).trans (f8 3 m)
          have e9 : ∀ m, m ≠ 1 → (lAdd (kDuel K (nI a) (nI b)) 1 nd) 9 m = K 9 m := fun m hm => lAdd_9 (K := kDuel K (nI a) (nI b)) (x := nd) hm
          have h81 : (kDuel K (nI a) (nI b)) 8 2 1 = nI nd := by rw [f8, if_neg (by omega)]; exact nd1
          have h83 : (kDuel K (nI a) (nI b)) 8 3 1 = K 8 3 1 := by rw [f8, if_neg (by omega)]
          have hcn : ∀ s, va_up (va_up cn (2 * nd) 0) (2 * nd + 1) 0 s = if s = 2 * nd + 1 then 0 else if s = 2 * nd then 0 else cn s := fun s => rfl
          have hcl : ∀ s, s < 2 * nd → va_up (va_up cn (2 * nd) 0) (2 * nd + 1) 0 s = cn s := fun s hs2 => by rw [hcn, if_neg (by omega), if_neg (by omega)]
          have hcz : ∀ s, 2 * nd ≤ s → s < 2 * (nd + 1) → va_up (va_up cn (2 * nd) 0) (2 * nd + 1) 0 s = 0 := fun s h1 h2 => by
            rw [hcn]
            rcases (by omega : s = 2 * nd ∨ s = 2 * nd + 1) with z | z
            · rw [if_neg (by omega), if_pos z]
            · rw [if_pos z]
          have hwl : ∀ (f : Nat → Nat) d, d < nd → va_up f nd 0 d = f d := fun f d hd => by rw [up_if, if_neg (by omega)]
          have hwz : ∀ (f : Nat → Nat), va_up f nd 0 nd = 0 := fun f => by rw [up_if, if_pos rfl]
          obtain ⟨z1, z2, z3, z4, z5⟩ := z0 nd (Nat.le_refl nd) hn8
          have sn0 : sn nd = 0 := (n1 nd hn8).2.2.1 (Nat.le_refl nd)
          have hsum : sumN (va_up (va_up cn (2 * nd) 0) (2 * nd + 1) 0) (2 * (nd + 1)) = sumN cn (2 * nd) := by
            show sumN (va_up (va_up cn (2 * nd) 0) (2 * nd + 1) 0) (2 * nd + 2) = _
            show sumN (va_up (va_up cn (2 * nd) 0) (2 * nd + 1) 0) (2 * nd) + va_up (va_up cn (2 * nd) 0) (2 * nd + 1) 0 (2 * nd) + va_up (va_up cn (2 * nd) 0) (2 * nd + 1) 0 (2 * nd + 1) = _
            rw [hcz _ (by omega) (by omega), hcz _ (by omega) (by omega), sumN_cong (g := cn) (fun i hi => hcl i hi)]
            rfl
          unfold RR
          refine ⟨np1, np2, np3, ?q_nc1, nc2, nc3, nc4, ?q_nd1, ?q_nd2, ?q_nd3, ?q_nd4, ?q_no1, no2, no3, no4, ?q_ns1, ns2, ns3, ?q_lc0, ?q_lc1, ?q_lc2, ?q_lc3, l0, ?q_l1, l2, pl, sd, hs_, av, ab, c0, c1, c2, ?q_c3, c4, ?q_c6, ?q_c7, g1, g2, g3, g4, g5, g6, g7, ?q_g8, ?q_g9, ?q_d1, ?q_d2, ?q_d3, ?q_d4, ?q_d5, ?q_d6, ?q_dt, ?q_d7, ?q_d8, ?q_d9, ?q_d10, ?q_d11, ?q_d12, ?q_d13, ?q_d14, ?q_z0, ?q_n1, ?q_n0, ?q_n2, ?q_n5, ?q_n6, o1, o2, o3, o4, o5, ?q_o6, o7, ow, o8, ?q_o9⟩
          case q_nc1 =>
            rw [e82 _ (by omega), if_neg (by omega)]
            exact nc1
          case q_nd1 => exact lAdd_s2 (K := kDuel K (nI a) (nI b)) (x := nd) h81
          case q_nd2 =>
            show K 0 22 0 + 1 = _
            rw [nd2, nI_1]
          case q_nd3 => exact rfl
          case q_nd4 => omega
          case q_no1 =>
            rw [e82 _ (by omega), if_neg (by omega)]
            exact no1
          case q_ns1 =>
            rw [e82 _ (by omega), if_neg (by omega)]
            exact ns1
          case q_lc0 =>
            rw [e83 _ (by omega), if_neg (by omega)]
            exact lc0
          case q_lc1 =>
            have := lcp_add lc1 (by omega)
            rw [← h81, ← h83] at this
            exact (show (lAdd (kDuel K (nI a) (nI b)) 1 nd) 8 3 1 = _ from (lAdd_s3 (K := kDuel K (nI a) (nI b)) (n := 1) (x := nd))) ▸ this
          case q_lc2 =>
            rw [e83 _ (by omega), if_neg (by omega)]
            exact lc2
          case q_lc3 =>
            rw [e83 _ (by omega), if_neg (by omega)]
            exact lc3
          case q_l1 =>
            intro j hj
            rw [lAdd_s9 (K := kDuel K (nI a) (nI b)) h81 (by omega)]
            by_cases z : j = nd
            · rw [if_pos z, z]
            · rw [if_neg z]
              exact l1 j (by omega)
          case q_c3 =>
            intro c hc
            obtain ⟨y1, y2⟩ := c3 c hc
            refine ⟨y1, y2.imp id (fun y => ⟨y.1, ?_⟩)⟩
            obtain ⟨d, w1, w2, w3⟩ := y.2
            refine ⟨d, by omega, w2, ?_⟩
            rw [hwl _ d w1]
            exact w3
          case q_c6 =>
            intro c hc d hd q
            rcases Nat.lt_or_ge d nd with hd2 | hd2
            · obtain ⟨s, w1, i, w2, w3⟩ := c6 c hc d hd2 q
              exact ⟨s, w1, i, by rw [hcl _ (by omega)]; exact w2, w3⟩
            · have e : d = nd := by omega
              rw [e] at q
              have q3 : K 4 5 c = nI nd := q
              rcases (c3 c hc).2 with y | ⟨_, d2_, w1, w2, _⟩
              · exact absurd (q3.symm.trans y.2) (nI_neg1 (by omega))
              · exact absurd (w2.symm.trans q3) (nI_ne (by omega) (by omega) (by omega))
          case q_c7 =>
            intro d hd q
            rcases Nat.lt_or_ge d nd with hd2 | hd2
            · rw [hcl _ (by omega), hcl _ (by omega)]
              rw [hwl _ d hd2] at q
              exact c7 d hd2 q
            · have e : d = nd := by omega
              rw [e, hcz _ (by omega) (by omega), hcz _ (by omega) (by omega)]
              show cntE (K 4 5) (nI nd) nc = 0
              have hz0 : ∀ n, n ≤ nc → cntE (K 4 5) (nI nd) n = 0 := by
                intro n
                induction n with
                | zero => intro _; rfl
                | succ n ih =>
                  intro hn
                  show cntE (K 4 5) (nI nd) n + (if K 4 5 n = nI nd then 1 else 0) = 0
                  rw [ih (by omega), if_neg (fun q3 => ?_)]
                  rcases (c3 n (by omega)).2 with y | ⟨_, d2_, w1, w2, _⟩
                  · exact nI_neg1 (a := nd) (by omega) (q3.symm.trans y.2)
                  · exact nI_ne (a := d2_) (b := nd) (by omega) (by omega) (by omega) (w2.symm.trans q3)
              exact hz0 nc (Nat.le_refl nc)
          case q_g8 =>
            rw [hsum]
            show P + cntE (K 5 4) 98 no + 8 * (np + (nd + 1) + sumN cn (2 * nd)) + 7 * nc ≤ 8 * (t + 1)
            have g8b := rx_g8 h
            omega
          case q_g9 =>
            rcases g9 with ⟨s, w1, w2⟩ | q
            · exact Or.inl ⟨s, by omega, by rw [hcl s w1]; exact w2⟩
            · exact Or.inr q
          case q_d1 =>
            intro d hd
            show (lAdd (kDuel K (nI a) (nI b)) 1 nd) 7 0 (2 * d) = va_up (M 16 14) nd (nI a) d ∧ (lAdd (kDuel K (nI a) (nI b)) 1 nd) 7 0 (2 * d + 1) = va_up (M 16 15) nd (nI b) d ∧ _
            rcases Nat.lt_or_ge d nd with hd2 | hd2
            · have w1 : (lAdd (kDuel K (nI a) (nI b)) 1 nd) 7 0 (2 * d) = K 7 0 (2 * d) := by rw [f7, if_neg (by omega), if_neg (by omega)]
              have w2 : (lAdd (kDuel K (nI a) (nI b)) 1 nd) 7 0 (2 * d + 1) = K 7 0 (2 * d + 1) := by rw [f7, if_neg (by omega), if_neg (by omega)]
              rw [w1, w2, up_if, up_if, if_neg (by omega), if_neg (by omega)]
              exact d1 d hd2
            · have e : d = nd := by omega
              have w1 : (lAdd (kDuel K (nI a) (nI b)) 1 nd) 7 0 (2 * d) = nI a := by rw [f7, if_pos (by omega), if_pos rfl]
              have w2 : (lAdd (kDuel K (nI a) (nI b)) 1 nd) 7 0 (2 * d + 1) = nI b := by rw [f7, if_neg (by omega), if_pos (by omega), if_pos rfl]
              rw [w1, w2, up_if, up_if, if_pos e, if_pos e]
              exact ⟨rfl, rfl, a, b, ha, hb, hab, rfl, rfl⟩
          case q_d2 =>
            intro d hd
            show (lAdd (kDuel K (nI a) (nI b)) 1 nd) 6 2 d = va_up (M 13 16) nd 111 d ∧ _
            rw [f6, up_if]
            rcases Nat.lt_or_ge d nd with hd2 | hd2
            · rw [if_neg (by omega), if_neg (by omega), hwl _ d hd2, hwl _ d hd2]
              exact d2 d hd2
            · have e : d = nd := by omega
              rw [e, if_pos rfl, if_pos rfl, hwz, hwz, if_pos rfl]
              exact ⟨rfl, rfl, by omega, by omega, fun z => absurd rfl z⟩
          case q_d3 =>
            intro s hs2
            show (lAdd (kDuel K (nI a) (nI b)) 1 nd) 7 1 s = va_up (va_up (M 16 18) (2 * nd) 10) (2 * nd + 1) 10 s
            rw [f7, up_if, up_if]
            rcases (by omega : s < 2 * nd ∨ s = 2 * nd ∨ s = 2 * nd + 1) with z | z | z
            · rw [if_neg (by omega), if_neg (by omega), if_neg (by omega), if_neg (by omega)]
              exact d3 s z
            · rw [if_pos z, if_neg (by omega), if_neg (by omega), if_pos z]
            · rw [if_neg (by omega), if_pos z, if_neg (by omega), if_pos z]
          case q_d4 =>
            intro d hd q
            rcases Nat.lt_or_ge d nd with hd2 | hd2
            · rw [hwl _ d hd2] at q
              rw [f6, f7, f7, if_neg (by omega), if_neg (by omega), if_neg (by omega), if_neg (by omega), if_neg (by omega)]
              exact d4 d hd2 q
            · have e : d = nd := by omega
              rw [e, hwz] at q
              exact absurd rfl q
          case q_d5 =>
            intro d hd q
            rw [f7, f7, f6]
            rcases Nat.lt_or_ge d nd with hd2 | hd2
            · rw [hwl _ d hd2] at q
              rw [hwl _ d hd2, if_neg (by omega), if_neg (by omega), if_neg (by omega), if_neg (by omega), if_neg (by omega)]
              exact d5 d hd2 q
            · have e : d = nd := by omega
              rw [e, hwz, if_pos rfl, if_neg (by omega), if_neg (by omega), if_pos rfl]
              exact ⟨⟨10, by omega, by omega, rfl⟩, ⟨10, by omega, by omega, rfl⟩, fun z => absurd z (by decide)⟩
          case q_d6 =>
            intro d hd q
            show ∃ τ, τ ≤ t + 1 ∧ (lAdd (kDuel K (nI a) (nI b)) 1 nd) 6 5 d = nI τ ∧ M 16 20 d = nI τ ∧ va_up dp nd 0 d ≤ cntE ((lAdd (kDuel K (nI a) (nI b)) 1 nd) 18 (2 * d + τ % 2)) 1 8
            rcases Nat.lt_or_ge d nd with hd2 | hd2
            · rw [hwl _ d hd2] at q
              obtain ⟨τ, w1, w2, w3, w4⟩ := d6 d hd2 q
              refine ⟨τ, w1, ?_, w3, ?_⟩
              · rw [f6, if_neg (by omega)]
                exact w2
              · rw [hwl _ d hd2, cntE_cong (g := K 18 (2 * d + τ % 2)) (w := 1) (fun i _ => by rw [f18, if_neg (by omega)])]
                exact w4
            · have e : d = nd := by omega
              rw [e, hwz]
              exact ⟨0, by omega, by rw [f6, if_pos rfl]; rfl, z1, Nat.zero_le _⟩
          case q_dt =>
            intro d hd
            show ∃ τ, τ ≤ t + 1 ∧ M 16 20 d = nI τ
            rcases Nat.lt_or_ge d nd with hd2 | hd2
            · exact dt d hd2
            · have e : d = nd := by omega
              rw [e]
              exact ⟨0, by omega, z1⟩
          case q_d7 =>
            intro s hs2
            show _ ∧ M 16 21 s = _ ∧ _
            rw [e82 _ (by omega), e83 _ (by omega)]
            rcases Nat.lt_or_ge s (2 * nd) with z | z
            · rw [hcl s z, if_neg (by omega), if_neg (by omega)]
              exact d7 s z
            · rw [hcz s z hs2, if_pos (by omega), if_pos (by omega)]
              refine ⟨rfl, ?_, by omega, 0, rfl, by omega, by omega, Or.inl rfl⟩
              rcases (by omega : s = 2 * nd ∨ s = 2 * nd + 1) with y | y
              · rw [y]
                exact z2
              · rw [y]
                exact z3
          case q_d8 =>
            intro s hs2 i hi
            rcases Nat.lt_or_ge s (2 * nd) with z | z
            · rw [hcl s z] at hi
              rw [e9 _ (by omega)]
              exact d8 s z i hi
            · rw [hcz s z hs2] at hi
              omega
          case q_d9 =>
            intro s hs2 i hi
            show _ ∧ (_ → _ = M 16 23 (8 * s + i)) ∧ _
            rw [f18]
            rcases Nat.lt_or_ge s (2 * nd) with z | z
            · rw [hcl s z, if_neg (by omega)]
              exact d9 s z i hi
            · rw [hcz s z hs2, if_pos (by omega)]
              exact ⟨Or.inl rfl, fun q => absurd q (Nat.not_lt_zero i), fun _ => rfl⟩
          case q_d10 =>
            intro d hd
            show _ ∧ M 16 24 d = _ ∧ _
            rw [f6]
            rcases Nat.lt_or_ge d nd with hd2 | hd2
            · rw [if_neg (by omega), hwl _ d hd2, hwl _ d hd2, hwl _ d hd2]
              exact d10 d hd2
            · have e : d = nd := by omega
              rw [e, if_pos rfl, hwz]
              exact ⟨rfl, z4, by omega, fun _ => rfl⟩
          case q_d11 =>
            intro d hd i hi
            show _ = M 16 25 (16 * d + i) ∧ _
            rw [f17]
            rcases Nat.lt_or_ge d nd with hd2 | hd2
            · rw [if_neg (by omega), hwl _ d hd2]
              exact d11 d hd2 i hi
            · have e : d = nd := by omega
              rw [e, if_pos rfl, hwz]
              exact ⟨(z5 i hi).symm, fun q => absurd q (Nat.not_lt_zero i)⟩
          case q_d12 =>
            intro d hd q s hs2 i hi
            rcases Nat.lt_or_ge d nd with hd2 | hd2
            · rw [hwl _ d hd2] at q
              rw [hcl s (by omega)] at hi
              exact d12 d hd2 q s hs2 i hi
            · rw [hcz s (by omega) (by omega)] at hi
              omega
          case q_d13 =>
            intro d hd q s hs2 i hi
            rcases Nat.lt_or_ge d nd with hd2 | hd2
            · rw [hwl _ d hd2] at q
              rw [hcl s (by omega)] at hi
              rw [f7, if_neg (by omega), if_neg (by omega)]
              exact d13 d hd2 q s hs2 i hi
            · rw [hcz s (by omega) (by omega)] at hi
              omega
          case q_d14 =>
            intro d hd s s2 hs2 hs3 i j hi hj q
            rcases Nat.lt_or_ge d nd with hd2 | hd2
            · rw [hcl s (by omega)] at hi
              rw [hcl s2 (by omega)] at hj
              exact d14 d hd2 s s2 hs2 hs3 i j hi hj q
            · rw [hcz s (by omega) (by omega)] at hi
              omega
          case q_z0 => exact fun d hd hd8 => z0 d (by omega) hd8
          case q_n1 =>
            intro d hd
            obtain ⟨w1, w2, w3, w4⟩ := n1 d hd
            refine ⟨w1, w2, fun q => w3 (by omega), fun q => ?_⟩
            rcases Nat.lt_or_ge d nd with hd2 | hd2
            · rw [hwl _ d hd2] at q
              exact w4 q
            · exact w3 hd2
          case q_n0 =>
            intro d hd
            rw [f6]
            rcases Nat.lt_or_ge d nd with hd2 | hd2
            · rw [if_neg (by omega)]
              exact n0 d hd2
            · have e : d = nd := by omega
              rw [e, if_pos rfl, sn0]
              rfl
          case q_n2 =>
            obtain ⟨w1, w2, w3⟩ := n2
            refine ⟨fun R hR q => ?_, w2, w3⟩
            have hlt : R / 36 < nd := by
              rcases Nat.lt_or_ge (R / 36) nd with y | y
              · exact y
              · have := of_decide_eq_true (show decide (R / 6 % 6 < sn (R / 36)) = true from q)
                rw [(n1 (R / 36) (by omega)).2.2.1 y] at this
                omega
            obtain ⟨v1, v2, v3⟩ := w1 R hR q
            refine ⟨?_, v2, v3⟩
            rw [f19, if_neg (by omega)]
            exact v1
          case q_n5 =>
            intro d hd s hs2 i hi
            show _ = M 16 28 (16 * (6 * d + s) + i)
            rcases Nat.lt_or_ge d nd with hd2 | hd2
            · have := (n1 d (by omega)).2.1
              rw [f20, if_neg (by omega)]
              exact n5 d hd2 s hs2 i hi
            · have e : d = nd := by omega
              rw [e, sn0] at hs2
              omega
          case q_n6 =>
            intro d hd s hs2
            rcases Nat.lt_or_ge d nd with hd2 | hd2
            · rw [hcl _ (by omega), hcl _ (by omega)]
              exact n6 d hd2 s hs2
            · have e : d = nd := by omega
              rw [e, sn0] at hs2
              omega
          case q_o6 =>
            intro k hk
            rcases o6 k hk with y | ⟨y1, d, y2, y3, y4, y5⟩
            · exact Or.inl y
            · exact Or.inr ⟨y1, d, by omega, y3, by rw [hwl _ d y2]; exact y4, y5⟩
          case q_o9 =>
            intro d hd q
            rcases Nat.lt_or_ge d nd with hd2 | hd2
            · rw [hwl _ d hd2] at q
              refine ch_gen (D := fun _ => True) (fun o o2 ho hB s hs2 i hi => ?_) ns (fun j hj => ⟨Iff.rfl, fun _ => ⟨rfl, rfl, rfl, trivial⟩⟩) (K 4 2) _ (fun _ _ => rfl) (o9 d hd2 q)
              rw [hcl s (by omega)] at hi
              have w1 : (lAdd (kDuel K (nI a) (nI b)) 1 nd) 6 3 d = K 6 3 d := by rw [f6, if_neg (by omega)]
              have w2 : (lAdd (kDuel K (nI a) (nI b)) 1 nd) 7 0 s = K 7 0 s := by rw [f7, if_neg (by omega), if_neg (by omega)]
              rw [w1, w2, ho _ trivial]
              exact hB s hs2 i hi
            · have e : d = nd := by omega
              rw [e, hwz] at q
              omega
        refine ⟨by omega, by omega, ?_, by omega, by omega, ?_, 1, 160, by omega, by omega, ?_, ?_⟩
        · refine ⟨by rw [nd2, nI_1, nI_clamp (by omega), hD], fun i hi he j hj => ?_⟩
          rcases (by omega : i = 0 ∨ i = 1 ∨ i = 2 ∨ i = 3 ∨ 4 ≤ i) with rfl | rfl | rfl | rfl | hi4
          · exact absurd he (by decide)
          · rw [nd1, nI_clamp (by omega)] at hj
            rw [l1 j hj, nI_clamp (by omega), hD]
            exact hj
          · exact absurd he (by decide)
          · exact absurd he (by decide)
          · obtain ⟨i2, rfl⟩ : ∃ i2, i = i2 + 4 := ⟨i - 4, by omega⟩
            exact absurd he (by show ¬ (4 : Nat) = 6; decide)
        · show nD K < (K 0 22 0 + 1).toNatClampNeg
          rw [hD, nd2, nI_1, nI_clamp (by omega)]
          omega
        · have h81 : (kDuel K (nI a) (nI b)) 8 2 1 = nI nd := by rw [kd8, hD, if_neg (by omega)]; exact nd1
          have h83 : (kDuel K (nI a) (nI b)) 8 3 1 = K 8 3 1 := by rw [kd8, hD, if_neg (by omega)]
          refine ok_add (K := kDuel K (nI a) (nI b)) (cnt := nd) h81 (by rw [h83]; exact lc1) (by omega) (by omega) (by omega) (fun j hj => ?_)
          show (K 9 1 j).toNatClampNeg < (K 0 22 0 + 1).toNatClampNeg
          rw [l1 j hj, nI_clamp (by omega), nd2, nI_1, nI_clamp (by omega)]
          omega
        · have h81 : (kDuel K (nI a) (nI b)) 8 2 1 = nI nd := by rw [kd8, hD, if_neg (by omega)]; exact nd1
          rw [hD]
          have e9 : ((lAdd (kDuel K (nI a) (nI b)) 1 nd) 8 2 1 - 1) = nI nd := by
            rw [lAdd_s2 (K := kDuel K (nI a) (nI b)) (x := nd) h81, nI_pred]
          show G ((lAdd (kDuel K (nI a) (nI b)) 1 nd) 8 2 1 - 1) _
          rw [e9]
          exact hK _ ⟨ns, P, r, _, _, _, _, bl, sl, sk, _, ap, hz⟩ ⟨rfl, rfl, rfl⟩ hn8
