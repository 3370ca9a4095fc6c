/-! The law's reads. -/
theorem r_coins {t np nc nd no : Nat} {sn : Nat → Nat} {K : KS} {G : Int32 → Prop} {p1 p3 p4 : Int32} (hI : V36 t np nc nd no sn K) (h1 : ∀ p, p < np → p1 = nI p → G (K 10 0 p)) (h0 : ¬ (0 ≤ p1 ∧ p1 < nI np) → G (-1001)) : wpL_c6 G 2 12 K p1 p3 p4 := by
  obtain ⟨ns, P, r, cn, dp, ew, go, bl, sl, sk, M, ap, h⟩ := hI
  have np1 := rx_np1 h
  have np3 := rx_np3 h
  unfold wpL_c6 wpX6_coinsOf
  refine ⟨1, 6, by omega, by omega, nd_player (fun z => ?_) (fun z => ⟨by omega, by omega, yI (h0 (by rw [← np1]; exact z))⟩)⟩
  rw [np1] at z
  obtain ⟨p, hp, rfl⟩ := nI_inN (by omega) z.1 z.2
  refine ⟨vp_in_nI (by omega) (by omega), ?_⟩
  rw [nI_clamp (by omega)]
  exact h1 p hp rfl
theorem r_cards {t np nc nd no : Nat} {sn : Nat → Nat} {K : KS} {G : Int32 → Prop} {p1 p3 p4 : Int32} (hI : V36 t np nc nd no sn K) (h1 : ∀ p, p < np → p1 = nI p → G (foldC (K 4 2) (nI p) 0 nc 0)) (h0 : ¬ (0 ≤ p1 ∧ p1 < nI np) → G (-1001)) : wpL_c5 G 2 12 K p1 p3 p4 := by
  obtain ⟨ns, P, r, cn, dp, ew, go, bl, sl, sk, M, ap, h⟩ := hI
  have np1 := rx_np1 h
  have np3 := rx_np3 h
  have nc1 := rx_nc1 h
  have nc2 := rx_nc2 h
  have nc4 := rx_nc4 h
  have lc0 := rx_lc0 h
  have l0 := rx_l0 h
  obtain ⟨q, q1, q2, q3, q4⟩ := lc0
  unfold wpL_c5 wpX6_cardsOf
  refine ⟨1, 6, by omega, by omega, nd_player (fun z => ⟨nc + 1, ?_⟩) (fun z => ⟨by omega, by omega, yI (h0 (by rw [← np1]; exact z))⟩)⟩
  rw [np1] at z
  obtain ⟨p, hp, rfl⟩ := nI_inN (by omega) z.1 z.2
  exact cl_cardsOf nc1 (nC_of nc2 (by omega)) q1 ⟨q2, by omega⟩ l0 nc 0 _ _ 0 (by omega) (h1 p hp rfl)
theorem r_owner {t np nc nd no : Nat} {sn : Nat → Nat} {K : KS} {G : Int32 → Prop} {p1 p3 p4 : Int32} (hI : V36 t np nc nd no sn K) (h1 : ∀ c, c < nc → p1 = nI c → G (K 4 2 c)) (h0 : ¬ (0 ≤ p1 ∧ p1 < nI nc) → G (-1001)) : wpL_c2 G 2 12 K p1 p3 p4 := by
  obtain ⟨ns, P, r, cn, dp, ew, go, bl, sl, sk, M, ap, h⟩ := hI
  have nc1 := rx_nc1 h
  have nc2 := rx_nc2 h
  have nc4 := rx_nc4 h
  have lc0 := rx_lc0 h
  have l0 := rx_l0 h
  unfold wpL_c2 wpX6_ownerOf
  refine ⟨1, 6, by omega, by omega, at_card nc1 nc2 lc0 nc4 l0 (fun c hc e => ?_) (fun z => ⟨by omega, by omega, yI (h0 z)⟩)⟩
  exact ⟨by rw [nC_of nc2 (by omega)]; exact hc, h1 c hc e⟩
theorem r_posted {t np nc nd no : Nat} {sn : Nat → Nat} {K : KS} {G : Int32 → Prop} {p1 p3 p4 : Int32} (ht : t < 512) (hI : V36 t np nc nd no sn K) (h1 : ∀ c, c < nc → p1 = nI c → G (K 4 2 c)) (h0 : ¬ (0 ≤ p1 ∧ p1 < nI nc) → G (-1001)) : wpL_c3 G 2 12 K p1 p3 p4 := by
  obtain ⟨ns, P, r, cn, dp, ew, go, bl, sl, sk, M, ap, h⟩ := hI
  have nc1 := rx_nc1 h
  have nc2 := rx_nc2 h
  have nc4 := rx_nc4 h
  have lc0 := rx_lc0 h
  have l0 := rx_l0 h
  have c0 := rx_c0 h
  have g1 := rx_g1 h
  have g3 := rx_g3 h
  have g4 := rx_g4 h
  have g5 := rx_g5 h
  have g7 := rx_g7 h
  have hr := rOK_le g4
  unfold wpL_c3 wpX6_ownerByPostings
  refine ⟨1, 6, by omega, by omega, at_card nc1 nc2 lc0 nc4 l0 (fun c hc e => ?_) (fun z => ⟨by omega, by omega, yI (h0 z)⟩)⟩
  subst e
  refine ⟨by rw [nC_of nc2 (by omega)]; exact hc, ?_⟩
  rw [c0 c hc]
  unfold wpX3_lastHolder
  refine ⟨P + 1, ?_⟩
  rw [g1]
  refine cl_last g3 hr.2 g5 P (Nat.le_refl P) ?_
  rw [g7 c hc]
  exact h1 c hc rfl
theorem r_cstate {t np nc nd no : Nat} {sn : Nat → Nat} {K : KS} {G : Int32 → Prop} {p1 p3 p4 : Int32} (hI : V36 t np nc nd no sn K) (h1 : ∀ c, c < nc → p1 = nI c → G (K 4 3 c)) (h0 : ¬ (0 ≤ p1 ∧ p1 < nI nc) → G (-1001)) : wpL_c4 G 2 12 K p1 p3 p4 := by
  obtain ⟨ns, P, r, cn, dp, ew, go, bl, sl, sk, M, ap, h⟩ := hI
  have nc1 := rx_nc1 h
  have nc2 := rx_nc2 h
  have nc4 := rx_nc4 h
  have lc0 := rx_lc0 h
  have l0 := rx_l0 h
  have c3 := rx_c3 h
  unfold wpL_c4 wpX6_stateOf
  refine ⟨1, 6, by omega, by omega, at_card nc1 nc2 lc0 nc4 l0 (fun c hc e => ?_) (fun z => ⟨by omega, by omega, yI (h0 z)⟩)⟩
  refine ⟨by rw [nC_of nc2 (by omega)]; exact hc, ?_, h1 c hc e⟩
  rcases (c3 c hc).2 with a | ⟨_, d, _, _, a | a⟩
  · rw [a.1]; rfl
  · rw [a.2]; rfl
  · rw [a.2]; rfl
theorem r_dstate {t np nc nd no : Nat} {sn : Nat → Nat} {K : KS} {G : Int32 → Prop} {p1 p3 p4 : Int32} (hI : V36 t np nc nd no sn K) (h1 : ∀ d, d < nd → p1 = nI d → G (K 6 2 d)) (h0 : ¬ (0 ≤ p1 ∧ p1 < nI nd) → G (-1001)) : wpL_c13 G 2 12 K p1 p3 p4 := by
  obtain ⟨ns, P, r, cn, dp, ew, go, bl, sl, sk, M, ap, h⟩ := hI
  have nd1 := rx_nd1 h
  have nd2 := rx_nd2 h
  have nd4 := rx_nd4 h
  have lc1 := rx_lc1 h
  have l1 := rx_l1 h
  have d2 := rx_d2 h
  unfold wpL_c13 wpX6_duelState
  refine ⟨1, 6, by omega, by omega, at_duel nd1 nd2 lc1 nd4 l1 (fun d hd e => ?_) (fun z => ⟨by omega, by omega, yI (h0 z)⟩)⟩
  exact ⟨by rw [nD_of nd2 (by omega)]; exact hd, by rw [(d2 d hd).2.1]; exact phv_char _ _, h1 d hd e⟩
theorem r_life0 {t np nc nd no : Nat} {sn : Nat → Nat} {K : KS} {G : Int32 → Prop} {p1 p4 : Int32} (hI : V36 t np nc nd no sn K) (h1 : ∀ d, d < nd → p1 = nI d → G (K 7 1 (2 * d))) (h0 : ¬ (0 ≤ p1 ∧ p1 < nI nd) → G (-1001)) : wpL_c14_0 G 2 12 K p1 p4 := by
  obtain ⟨ns, P, r, cn, dp, ew, go, bl, sl, sk, M, ap, h⟩ := hI
  have nd1 := rx_nd1 h
  have nd2 := rx_nd2 h
  have nd4 := rx_nd4 h
  have lc1 := rx_lc1 h
  have l1 := rx_l1 h
  unfold wpL_c14_0 wpX6_life
  refine ⟨1, 6, by omega, by omega, at_duel nd1 nd2 lc1 nd4 l1 (fun d hd e => ?_) (fun z => ⟨by omega, by omega, yI (h0 z)⟩)⟩
  have hD : d < nD K := by rw [nD_of nd2 (by omega)]; exact hd
  exact ⟨fun _ => ⟨hD, h1 d hd e⟩, fun q => absurd rfl q⟩
theorem r_life1 {t np nc nd no : Nat} {sn : Nat → Nat} {K : KS} {G : Int32 → Prop} {p1 p4 : Int32} (hI : V36 t np nc nd no sn K) (h1 : ∀ d, d < nd → p1 = nI d → G (K 7 1 (2 * d + 1))) (h0 : ¬ (0 ≤ p1 ∧ p1 < nI nd) → G (-1001)) : wpL_c14_1 G 2 12 K p1 p4 := by
  obtain ⟨ns, P, r, cn, dp, ew, go, bl, sl, sk, M, ap, h⟩ := hI
  have nd1 := rx_nd1 h
  have nd2 := rx_nd2 h
  have nd4 := rx_nd4 h
  have lc1 := rx_lc1 h
  have l1 := rx_l1 h
  unfold wpL_c14_1 wpX6_life
  refine ⟨1, 6, by omega, by omega, at_duel nd1 nd2 lc1 nd4 l1 (fun d hd e => ?_) (fun z => ⟨by omega, by omega, yI (h0 z)⟩)⟩
  have hD : d < nD K := by rw [nD_of nd2 (by omega)]; exact hd
  exact ⟨fun q => absurd q (by decide), fun _ => ⟨hD, h1 d hd e⟩⟩
theorem r_mana {t np nc nd no : Nat} {sn : Nat → Nat} {K : KS} {G : Int32 → Prop} {p1 p3 p4 : Int32} (hI : V36 t np nc nd no sn K) (h1 : ∀ d, d < nd → p1 = nI d → G (if K 6 2 d = 103 then K 6 4 d else -1004)) (h0 : ¬ (0 ≤ p1 ∧ p1 < nI nd) → G (-1001)) : wpL_c15 G 2 12 K p1 p3 p4 := by
  obtain ⟨ns, P, r, cn, dp, ew, go, bl, sl, sk, M, ap, h⟩ := hI
  have nd1 := rx_nd1 h
  have nd2 := rx_nd2 h
  have nd4 := rx_nd4 h
  have lc1 := rx_lc1 h
  have l1 := rx_l1 h
  unfold wpL_c15 wpX6_mana
  refine ⟨1, 6, by omega, by omega, at_duel nd1 nd2 lc1 nd4 l1 (fun d hd e => ?_) (fun z => ⟨by omega, by omega, yI (h0 z)⟩)⟩
  have hD : d < nD K := by rw [nD_of nd2 (by omega)]; exact hd
  have := h1 d hd e
  refine ⟨hD, fun c => ?_, fun c => ⟨by omega, by omega, yU ?_⟩⟩
  · rw [if_pos c] at this
    exact this
  · rw [if_neg c] at this
    exact this
theorem r_depth {t np nc nd no : Nat} {sn : Nat → Nat} {K : KS} {G : Int32 → Prop} {p1 p3 p4 : Int32} (hI : V36 t np nc nd no sn K) (h1 : ∀ d, d < nd → p1 = nI d → G (K 6 7 d)) (h0 : ¬ (0 ≤ p1 ∧ p1 < nI nd) → G (-1001)) : wpL_c16 G 2 12 K p1 p3 p4 := by
  obtain ⟨ns, P, r, cn, dp, ew, go, bl, sl, sk, M, ap, h⟩ := hI
  have nd1 := rx_nd1 h
  have nd2 := rx_nd2 h
  have nd4 := rx_nd4 h
  have lc1 := rx_lc1 h
  have l1 := rx_l1 h
  unfold wpL_c16 wpX6_depth
  refine ⟨1, 6, by omega, by omega, at_duel nd1 nd2 lc1 nd4 l1 (fun d hd e => ?_) (fun z => ⟨by omega, by omega, yI (h0 z)⟩)⟩
  exact ⟨by rw [nD_of nd2 (by omega)]; exact hd, h1 d hd e⟩
theorem r_winner {t np nc nd no : Nat} {sn : Nat → Nat} {K : KS} {G : Int32 → Prop} {p1 p3 p4 : Int32} (hI : V36 t np nc nd no sn K) (h1 : ∀ d, d < nd → p1 = nI d → G (if K 6 2 d = 111 ∨ K 6 2 d = 103 then -1005 else K 6 3 d)) (h0 : ¬ (0 ≤ p1 ∧ p1 < nI nd) → G (-1001)) : wpL_c17 G 2 12 K p1 p3 p4 := by
  obtain ⟨ns, P, r, cn, dp, ew, go, bl, sl, sk, M, ap, h⟩ := hI
  have nd1 := rx_nd1 h
  have nd2 := rx_nd2 h
  have nd4 := rx_nd4 h
  have lc1 := rx_lc1 h
  have l1 := rx_l1 h
  unfold wpL_c17 wpX6_winner
  refine ⟨1, 6, by omega, by omega, at_duel nd1 nd2 lc1 nd4 l1 (fun d hd e => ?_) (fun z => ⟨by omega, by omega, yI (h0 z)⟩)⟩
  have hD : d < nD K := by rw [nD_of nd2 (by omega)]; exact hd
  have := h1 d hd e
  unfold wpX2_hasNotEnded
  refine ⟨hD, hD, fun c => ⟨fun q => absurd q (by decide), fun _ => ⟨by omega, by omega, yN ?_⟩⟩, fun c => ⟨fun c2 => ⟨fun _ => ?_, fun q => absurd rfl q⟩, fun c2 => ⟨fun q => absurd q (by decide), fun _ => ⟨by omega, by omega, yN ?_⟩⟩⟩⟩
  · rw [if_pos (Or.inl c)] at this
    exact this
  · rw [if_neg (fun z => z.elim c c2)] at this
    exact this
  · rw [if_pos (Or.inr c2)] at this
    exact this
theorem r_kept {t np nc nd no : Nat} {sn : Nat → Nat} {K : KS} {G : Int32 → Prop} {d s i : Nat} (hI : V36 t np nc nd no sn K) (hd : d < nd) (hs : s < sn d) (hi : i < 24) (h1 : G (NS K d s i)) : wpL_c20 G 2 12 K (nI d) (nI s) (nI i) := by
  obtain ⟨ns, P, r, cn, dp, ew, go, bl, sl, sk, M, ap, h⟩ := hI
  have nd1 := rx_nd1 h
  have nd2 := rx_nd2 h
  have nd4 := rx_nd4 h
  have lc1 := rx_lc1 h
  have l1 := rx_l1 h
  have n0 := rx_n0 h
  have n1 := rx_n1 h
  have n2 := rx_n2 h
  have hD : nD K = nd := nD_of nd2 (by omega)
  have h6 := (n1 d (by omega)).2.1
  unfold wpL_c20 wpX6_inSnapshot
  refine ⟨1, 6, by omega, by omega, at_duel nd1 nd2 lc1 nd4 l1 (fun d2 hd2 e => ?_) (fun z => absurd (in_nI hd (by omega)) z)⟩
  have ed : d2 = d := ((nI_eq (by omega) (by omega)).mp e).symm
  subst ed
  rw [n0 d2 hd]
  refine ⟨fun c => absurd c (nI_pos (by omega)), fun _ => ⟨by omega, fun c => absurd c (nI_ge hs (by omega)), fun _ => ⟨fun c => absurd c (nI_pos (by omega)), fun _ => ⟨fun _ => ?_, fun c => absurd (nI_lt (b := 24) hi (by omega)) c⟩⟩⟩⟩
  refine kn_ok (f := M 16 27) (bl := bl) (sn := sn) hD hd nd4 (by omega) hi (n2.1 _ (by omega) (by unfold kpB; rw [show (36 * d2 + 6 * s + i / 4) / 6 % 6 = s by omega, show (36 * d2 + 6 * s + i / 4) / 36 = d2 by omega]; exact decide_eq_true hs)) ?_
  rw [← ns_val h hd hs hi]
  exact h1
theorem r_ostate {t np nc nd no : Nat} {sn : Nat → Nat} {K : KS} {G : Int32 → Prop} {p1 p3 p4 : Int32} (hI : V36 t np nc nd no sn K) (h1 : ∀ k, k < no → p1 = nI k → G (K 5 4 k)) (h0 : ¬ (0 ≤ p1 ∧ p1 < nI no) → G (-1001)) : wpL_c25 G 2 12 K p1 p3 p4 := by
  obtain ⟨ns, P, r, cn, dp, ew, go, bl, sl, sk, M, ap, h⟩ := hI
  have no1 := rx_no1 h
  have no2 := rx_no2 h
  have no4 := rx_no4 h
  have lc2 := rx_lc2 h
  have l2 := rx_l2 h
  have o3 := rx_o3 h
  unfold wpL_c25 wpX6_offerState
  refine ⟨1, 6, by omega, by omega, at_offer no1 no2 lc2 no4 l2 (fun k hk e => ?_) (fun z => ⟨by omega, by omega, yI (h0 z)⟩)⟩
  refine ⟨by rw [nO_of no2 (by omega)]; exact hk, ?_, h1 k hk e⟩
  rcases (o3 k hk).2 with a | a | a <;> rw [a] <;> rfl
theorem r_house {G : Int32 → Prop} {K : KS} (h1 : G (K 0 3 0)) : wpX6_house G K := h1
theorem r_apart {G : Int64 → Prop} {K : KS} (h1 : G (K 0 4 0).toInt64) : wpX6_apart G K := h1
theorem r_postings {G : Int32 → Prop} {K : KS} (h1 : G (K 1 1 0)) : wpX6_postings G K := h1
def bkN (K : KS) : Nat := nzc (fun b => (K 10 3 b).toNatClampNeg) 288
theorem bkN_le (K : KS) : bkN K ≤ 288 := nzc_le _ _
theorem r_blocks {t np nc nd no : Nat} {sn : Nat → Nat} {K : KS} {G : Int32 → Prop} (hI : V36 t np nc nd no sn K) (h1 : G (nI (bkN K))) : wpX6_blocks G K := by
  obtain ⟨ns, P, r, cn, dp, ew, go, bl, sl, sk, M, ap, h⟩ := hI
  have n2 := rx_n2 h
  obtain ⟨b1, b2, b3⟩ := n2
  unfold wpX6_blocks wpX0_countKept
  refine ⟨288 + 1, cl_kept (f := fun b => (K 10 3 b).toNatClampNeg) (fun b hb => ?_) h1 288 0 rfl⟩
  have := refB_le (kpB sn) bl b 288
  rw [b2 b hb, nI_clamp (by omega)]
  exact ⟨rfl, this⟩
theorem r_sound {t np nc nd no : Nat} {sn : Nat → Nat} {K : KS} {G : Int32 → Prop} (hI : V36 t np nc nd no sn K) (h1 : G 1) : wpX6_isSound G K := by
  obtain ⟨ns, P, r, cn, dp, ew, go, bl, sl, sk, M, ap, h⟩ := hI
  have np1 := rx_np1 h
  have np3 := rx_np3 h
  have nc1 := rx_nc1 h
  have nc2 := rx_nc2 h
  have nc4 := rx_nc4 h
  have lc0 := rx_lc0 h
  have l0 := rx_l0 h
  have c0 := rx_c0 h
  have g1 := rx_g1 h
  have g3 := rx_g3 h
  have g4 := rx_g4 h
  have g5 := rx_g5 h
  have g7 := rx_g7 h
  have sd := rx_sd h
  have hr := rOK_le g4
  unfold wpX6_isSound
  refine ⟨nc + 1, cs_cards nc1 (nC_of nc2 (by omega)) lc0 nc4 l0 c0 g1 g3 hr.2 g5 g7 ⟨np + 1, ?_⟩ nc 0 (by omega)⟩
  have := cs_sum (post := G) (K := K) (b := K 0 3 0 + K 0 4 0) np1 np3 sd h1 np 0 (by omega)
  rw [show sumI (K 10 0) 0 = 0 from rfl, Int32.add_zero] at this
  exact this
