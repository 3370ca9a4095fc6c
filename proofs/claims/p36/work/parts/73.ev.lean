/-! The law's events. -/
theorem bd_sm {np t : Nat} {K K' : KS} (h : SM K K') (hB : BD np (60000 * t + 1000) K) : BD np (60000 * (t + 1) + 1000) K' := by
  have h2 := bd_up (B2 := 60000 * (t + 1) + 1000) (by omega) hB
  unfold BD at h2 ⊢
  rw [h.2.1, h.2.2]
  exact h2
theorem bd_60 {np t : Nat} {K K' : KS} (h : ∀ B : Nat, B < 2 ^ 30 → BD np B K → BD np (B + 60000) K') (ht : t < 76) (hB : BD np (60000 * t + 1000) K) : BD np (60000 * (t + 1) + 1000) K' := by
  have h2 := h _ (by omega) hB
  rw [show 60000 * (t + 1) + 1000 = 60000 * t + 1000 + 60000 by omega]
  exact h2
theorem bd_new {np t a : Nat} {K K' : KS} (ha : a < 300) (h1 : K' 10 0 = va_up (K 10 0) np (nI a)) (h2 : K' 0 3 0 = K 0 3 0) (hB : BD np (60000 * t + 1000) K) : BD (np + 1) (60000 * (t + 1) + 1000) K' := by
  have h3 := bd_up (B2 := 60000 * (t + 1) + 1000) (by omega) hB
  unfold BD at h3 ⊢
  rw [h1, h2]
  refine ⟨fun p hp => ?_, h3.2⟩
  rw [up_if]
  by_cases z : p = np
  · rw [if_pos z, nI_toInt (by omega)]
    omega
  · rw [if_neg z]
    exact h3.1 p (by omega)
theorem win_ne {t np nc nd no d : Nat} {sn : Nat → Nat} {K : KS} (hV : V36 t np nc nd no sn K) (hd : d < nd) (h : K 6 2 d = 101) : ¬ K 6 3 d = -1005 := by
  obtain ⟨ns, P, r, cn, dp, ew, go, bl, sl, sk, M, ap, h0⟩ := hV
  obtain ⟨a1, a2, a3, a4, a5⟩ := (rx_d2 h0) d hd
  obtain ⟨b1, b2, a, b, ha, hb, hab, e1, e2⟩ := (rx_d1 h0) d hd
  have np3 := rx_np3 h0
  have hew : ew d ≠ 0 := by
    have := (phv_101 a4).mp (by rw [← a2]; exact h)
    omega
  have neg : ∀ x : Nat, x < 6 → ¬ nI x = -1005 := fun x hx q => by
    have := congrArg Int32.toInt q
    rw [nI_toInt (by omega)] at this
    have h2 : (-1005 : Int32).toInt = -1005 := by decide
    omega
  rcases ((rx_d4 h0) d hd hew).2 with w | w | w
  · rw [w]
    decide
  · rw [w, e1]
    exact neg a (by omega)
  · rw [w, e2]
    exact neg b (by omega)
theorem row_up {M : KS} {sn : Nat → Nat} {d v : Nat} {x : Int32} (hd : d < 8) (hx : x = nI v) (hM : ∀ e, e < 8 → M 16 0 e = nI (sn e)) : ∀ e, e < 8 → (k3 M 16 0 (nI d).toNatClampNeg x) 16 0 e = nI (va_up sn d v e) := by
  intro e he
  rw [nI_clamp (by omega), k3_row, up_if, hx]
  by_cases z : e = d
  · rw [if_pos z, if_pos z]
  · rw [if_neg z, if_neg z]
    exact hM e he
theorem not_neg {v : Int32} (h : 0 ≤ v) : ¬ v < 0 := Int32.not_lt.mpr h
set_option maxRecDepth 100000 in
set_option maxHeartbeats 4000000 in
theorem e_181 {bk : Nat → Nat → Int32 → Int32 → Int32 → Int32 → Int32 → Int32 → KS → KS → Prop} {t np nc nd no uc us : Nat} {sn : Nat → Nat} {al : Int32} {K M : KS} {l10 l11 l12 l13 l14 l15 t0 : Int32} (ht : t < 76) (hbk : HB bk t) (hJ : J36 t np nc nd no sn al uc us K M) : wL_law_181 bk uc us (nI np) (nI nc) (nI nd) (nI no) al (nI t) l10 l11 l12 l13 l14 l15 t0 K M := by
  obtain ⟨hV, hB, hal, hM, huc, hus⟩ := hJ
  have hlim : np ≤ 6 ∧ nc ≤ 40 ∧ nd ≤ 8 ∧ no ≤ 60 ∧ ∀ d, d < 8 → sn d ≤ 6 := by
    obtain ⟨ns, P, r, cn, dp, ew, go, bl, sl, sk, M1, ap, h⟩ := hV
    exact ⟨rx_np3 h, rx_nc4 h, rx_nd4 h, rx_no4 h, fun d hd => ((rx_n1 h) d hd).2.1⟩
  obtain ⟨np3, nc4, nd4, no4, sn6⟩ := hlim
  have hBu : BD np (60000 * (t + 1) + 1000) K := bd_up (by omega) hB
  have fl : ∀ (v : Int32) (uc1 us1 : Nat), uc1 ≤ 100 + 3000 * t + 1900 → us1 ≤ 5000 + 40000 * t + 31000 → wL_law_955 bk uc1 us1 (nI np) (nI nc) (nI nd) (nI no) al (nI t) (sQ K np nc nd no) v K M := fun v uc1 us1 h1 h2 => e_955 ht hbk (v36_up hV) hBu hal hM (Or.inr rfl) h1 h2
  unfold wL_law_181
  refine ⟨500, 3000, by omega, by omega, st_ok hV ⟨fun _ => ⟨fun _ => ⟨fun _ => ⟨fun _ => ⟨fun _ => ⟨fun _ => ⟨fun _ => ⟨fun _ => ⟨fun _ => ⟨fun _ => ⟨fun _ => ⟨fun _ => ?_, fun _ => ?_⟩, fun _ => ?_⟩, fun _ => ?_⟩, fun _ => ?_⟩, fun _ => ?_⟩, fun _ => ?_⟩, fun _ => ?_⟩, fun _ => ?_⟩, fun _ => ?_⟩, fun _ => ?_⟩, fun _ => ?_⟩, fun _ => ?_⟩⟩
  · -- buy
    refine ⟨50, 14000, by omega, by omega, k_buy (by omega) hV (fun v hv => ⟨fun _ => fl v _ _ (by omega) (by omega), fun z => absurd hv z⟩) (fun K' p k c hp e1 hc hV' h02 h42 hx hle hco => ⟨fun z => absurd z (nI_pos (by omega)), fun _ => ⟨2, 12, by omega, by omega, r_owner hV' (fun c2 hc2 e2 => ⟨fun _ => ?_, fun z => ?_⟩) (fun z => absurd (in_nI hc (by omega)) z)⟩⟩)⟩
    · exact e_955 ht hbk hV' (bd_60 (fun B hB1 hB2 => bd_buy hx hp hle hco B hB1 hB2) ht hB) (h02.trans hal) hM (Or.inl (nI_pos' (by omega))) (by omega) (by omega)
    · have : c = c2 := nI_inj hc hc2 (by omega) e2
      subst this
      exact absurd (h42.trans e1.symm) z
  · -- withdraw
    exact ⟨2, 12, by omega, by omega, k_withdraw (by omega) hV (fun v hv => fl v _ _ (by omega) (by omega)) (fun v K' hv hV' hSM => e_955 ht hbk hV' (bd_sm hSM hB) (hSM.1.trans hal) hM (Or.inl hv) (by omega) (by omega))⟩
  · -- offer
    refine low_ok (n := 90) (by omega) (by omega) ?_
    refine ⟨20, 1000, by omega, by omega, k_offer (by omega) hV (fun v hv => ⟨fun _ => ?_, fun z => absurd hv z⟩) (fun K' hV' hSM hlt => ⟨fun z => absurd z (nI_pos (by omega)), fun _ => ?_⟩)⟩
    · unfold wL_law_893
      rw [Int32.add_zero]
      exact fl v _ _ (by omega) (by omega)
    · unfold wL_law_893
      rw [nI_1]
      exact e_955 ht hbk hV' (bd_sm hSM hB) (hSM.1.trans hal) hM (Or.inl (nI_pos' (by omega))) (by omega) (by omega)
  · -- rollBack
    refine low_ok (n := 3) (by omega) (by omega) ?_
    generalize lowF (l10 >>> (4 &&& 31)) (nI 3) = r94
    refine ⟨2, 14000, by omega, by omega, k_rollBack (by omega) hV (fun v hv => ⟨fun _ => ?_, fun z => absurd hv z⟩) (fun v K' d s hd e1 hs e2 hv hV' h02 hbd hst h0 h1 h2 h20 => ⟨fun z => absurd z (not_neg hv), fun _ => ?_⟩)⟩
    · unfold wL_law_850
      exact fl v _ _ (by omega) (by omega)
    · subst e1
      subst e2
      have hs6 := sn6 d (by omega)
      have hs' : s < va_up sn d (s + 1) d := by rw [va_up_s]; omega
      have hin : ∀ d2, d2 < nd → nI d = nI d2 → d2 = d := fun d2 hd2 e => (nI_inj hd hd2 (by omega) e).symm
      have hz : ∀ {P : Prop}, ¬ (0 ≤ nI d ∧ nI d < nI nd) → P := fun z => absurd (in_nI hd (by omega)) z
      refine ⟨vp_in_nI (by omega) (by omega), fun z => ?_, fun _ => ⟨2, 12, by omega, by omega, r_dstate hV' (fun d2 hd2 e => ⟨fun z => ?_, fun _ => ?_⟩) (fun z => hz z)⟩⟩
      · rw [nI_clamp (by omega), hM d (by omega)] at z
        exact absurd z (nI_ge hs (by omega))
      · rw [hin d2 hd2 e] at z
        exact absurd hst z
      · refine ⟨2, 12, by omega, by omega, r_life0 hV' (fun d2 hd2 e => ?_) (fun z => hz z)⟩
        rw [hin d2 hd2 e]
        refine ⟨2, 12, by omega, by omega, r_kept (i := 0) hV' hd hs' (by omega) ⟨fun z => absurd h0 z, fun _ => ?_⟩⟩
        refine ⟨2, 12, by omega, by omega, r_life1 hV' (fun d2 hd2 e => ?_) (fun z => hz z)⟩
        rw [hin d2 hd2 e]
        refine ⟨2, 12, by omega, by omega, r_kept (i := 1) hV' hd hs' (by omega) ⟨fun z => absurd h1 z, fun _ => ?_⟩⟩
        refine ⟨2, 12, by omega, by omega, r_mana hV' (fun d2 hd2 e => ?_) (fun z => hz z)⟩
        rw [hin d2 hd2 e, if_pos hst]
        refine ⟨2, 12, by omega, by omega, r_kept (i := 2) hV' hd hs' (by omega) ⟨fun z => absurd h2 z, fun _ => ?_⟩⟩
        refine ⟨2, 12, by omega, by omega, r_depth hV' (fun d2 hd2 e => ?_) (fun z => hz z)⟩
        rw [hin d2 hd2 e]
        refine ⟨2, 12, by omega, by omega, r_kept (i := 20) hV' hd hs' (by omega) ⟨fun _ => ?_, fun z => absurd h20 z⟩⟩
        unfold wL_law_850
        exact e_955 ht hbk hV' (bd_60 hbd ht hB) (h02.trans hal) (row_up (by omega) (nI_1 s) hM) (Or.inl hv) (by omega) (by omega)
  · -- snapshot
    refine ⟨2, 12, by omega, by omega, k_snapshot (by omega) hV (fun v hv => ⟨fun _ => fl v _ _ (by omega) (by omega), fun z => absurd hv z⟩) (fun K' d hd e1 h6 hV' hSM hst h0 h2 => ⟨fun z => absurd z (nI_pos (by omega)), fun _ => ?_⟩)⟩
    subst e1
    have hs' : sn d < va_up sn d (sn d + 1) d := by rw [va_up_s]; omega
    have hin : ∀ d2, d2 < nd → nI d = nI d2 → d2 = d := fun d2 hd2 e => (nI_inj hd hd2 (by omega) e).symm
    have hz : ∀ {P : Prop}, ¬ (0 ≤ nI d ∧ nI d < nI nd) → P := fun z => absurd (in_nI hd (by omega)) z
    have em : M 16 0 (nI d).toNatClampNeg = nI (sn d) := by rw [nI_clamp (by omega), hM d (by omega)]
    refine ⟨vp_in_nI (by omega) (by omega), fun z => absurd em.symm z, fun _ => ?_⟩
    refine ⟨2, 12, by omega, by omega, r_kept (i := 0) hV' hd hs' (by omega) ?_⟩
    refine ⟨2, 12, by omega, by omega, r_life0 hV' (fun d2 hd2 e => ?_) (fun z => hz z)⟩
    rw [hin d2 hd2 e]
    refine ⟨fun z => absurd h0 z, fun _ => ⟨2, 12, by omega, by omega, r_kept (i := 2) hV' hd hs' (by omega) ?_⟩⟩
    refine ⟨2, 12, by omega, by omega, r_mana hV' (fun d2 hd2 e => ?_) (fun z => hz z)⟩
    rw [hin d2 hd2 e, if_pos hst]
    refine ⟨fun _ => ?_, fun z => absurd h2 z⟩
    exact e_955 ht hbk hV' (bd_sm hSM hB) (hSM.1.trans hal) (row_up (by omega) (by rw [em, nI_1]) hM) (Or.inl (nI_pos' (by omega))) (by omega) (by omega)
  · -- close
    exact ⟨2, 12, by omega, by omega, k_close (by omega) hV (fun v hv => fl v _ _ (by omega) (by omega)) (fun v K' hv hV' h02 hbd => e_955 ht hbk hV' (bd_60 hbd ht hB) (h02.trans hal) hM (Or.inl hv) (by omega) (by omega))⟩
  · -- endTurn
    refine ⟨10, 14000, by omega, by omega, k_endTurn (by omega) hV (fun v hv => ⟨fun _ => fl v _ _ (by omega) (by omega), fun z => absurd hv z⟩) (fun v K' d hd e1 hv hst hV' hSM h67 => ⟨fun z => ?_, fun _ => ?_⟩)⟩
    · rcases hv with w | w
      · rw [w] at z
        exact absurd z (by decide)
      · rw [w] at z
        exact absurd z (by decide)
    · subst e1
      have hin : ∀ d2, d2 < nd → nI d = nI d2 → d2 = d := fun d2 hd2 e => (nI_inj hd hd2 (by omega) e).symm
      have hz : ∀ {P : Prop}, ¬ (0 ≤ nI d ∧ nI d < nI nd) → P := fun z => absurd (in_nI hd (by omega)) z
      have hv0 : 0 ≤ v := by
        rcases hv with w | w
        · rw [w]; decide
        · rw [w]; decide
      have fin : ∀ uc1 us1 : Nat, uc1 ≤ 100 + 3000 * t + 1900 → us1 ≤ 5000 + 40000 * t + 31000 → wL_law_955 bk uc1 us1 (nI np) (nI nc) (nI nd) (nI no) al (nI t) (sQ K np nc nd no) v K' M := fun uc1 us1 u1 u2 => e_955 ht hbk hV' (bd_sm hSM hB) (hSM.1.trans hal) hM (Or.inl hv0) u1 u2
      refine ⟨2, 12, by omega, by omega, r_depth hV' (fun d2 hd2 e => ⟨fun z => ?_, fun _ => ⟨fun q => ?_, fun q => ?_⟩⟩) (fun z => hz z)⟩
      · rw [hin d2 hd2 e] at z
        exact absurd h67 z
      · have w : K' 6 2 d = 103 := hst.trans (hv.resolve_left q)
        unfold wL_law_538
        refine ⟨2, 12, by omega, by omega, r_winner hV' (fun d2 hd2 e => ?_) (fun z => hz z)⟩
        rw [hin d2 hd2 e, if_pos (Or.inr w)]
        refine ⟨fun _ => ?_, fun z => absurd rfl z⟩
        unfold wL_law_559
        exact ⟨fun _ => fin _ _ (by omega) (by omega), fun z => absurd rfl z⟩
      · have w : K' 6 2 d = 101 := hst.trans q
        unfold wL_law_538
        refine ⟨2, 12, by omega, by omega, r_winner hV' (fun d2 hd2 e => ?_) (fun z => hz z)⟩
        rw [hin d2 hd2 e, if_neg (by rw [w]; decide)]
        refine ⟨fun z => absurd z (win_ne hV' hd w), fun _ => ?_⟩
        unfold wL_law_559
        exact ⟨fun _ => fin _ _ (by omega) (by omega), fun z => absurd rfl z⟩
  · -- play
    refine ⟨2, 12, by omega, by omega, r_mana hV (fun d hd e => ?_) (fun z => ?_)⟩
    · refine ⟨2, 12, by omega, by omega, r_depth hV (fun d2 hd2 e2 => ?_) (fun z => absurd (by rw [e]; exact in_nI hd (by omega)) z)⟩
      have h2 : d2 = d := (nI_inj hd hd2 (by omega) (e.symm.trans e2)).symm
      subst h2
      refine ⟨50, 1000, by omega, by omega, k_play (by omega) hV (fun v hv => ⟨fun _ => ?_, fun z => absurd hv z⟩) (fun v K' d3 hd3 e3 hv hle hst hV' hSM h67 => ⟨fun z => absurd z (not_neg hv), fun _ => ?_⟩)⟩
      · unfold wL_law_486
        exact fl v _ _ (by omega) (by omega)
      · have h3 : d3 = d2 := (nI_inj hd hd3 (by omega) (e.symm.trans e3)).symm
        subst h3
        rw [if_pos hst]
        refine ⟨fun z => absurd hle (Int32.not_le.mpr z), fun _ => ⟨2, 12, by omega, by omega, r_depth hV' (fun d4 hd4 e4 => ?_) (fun z => absurd (by rw [e]; exact in_nI hd (by omega)) z)⟩⟩
        have h4 : d4 = d3 := (nI_inj hd hd4 (by omega) (e.symm.trans e4)).symm
        subst h4
        refine ⟨fun _ => ?_, fun z => absurd h67 z⟩
        unfold wL_law_486
        exact e_955 ht hbk hV' (bd_sm hSM hB) (hSM.1.trans hal) hM (Or.inl hv) (by omega) (by omega)
    · refine ⟨2, 12, by omega, by omega, r_depth hV (fun d2 hd2 e2 => absurd (by rw [e2]; exact in_nI hd2 (by omega)) z) (fun _ => ?_)⟩
      refine ⟨50, 1000, by omega, by omega, k_play (by omega) hV (fun v hv => ⟨fun _ => ?_, fun z => absurd hv z⟩) (fun v K' d3 hd3 e3 hv hle hst hV' hSM h67 => absurd (by rw [e3]; exact in_nI hd3 (by omega)) z)⟩
      unfold wL_law_486
      exact fl v _ _ (by omega) (by omega)
  · -- start
    exact ⟨2, 12, by omega, by omega, k_start (by omega) hV (fun v hv => fl v _ _ (by omega) (by omega)) (fun v K' hv hV' hSM => e_955 ht hbk hV' (bd_sm hSM hB) (hSM.1.trans hal) hM (Or.inl hv) (by omega) (by omega))⟩
  · -- stake
    refine ⟨50, 1000, by omega, by omega, k_stake (by omega) hV (fun v hv => ⟨fun _ => fl v _ _ (by omega) (by omega), fun z => absurd hv z⟩) (fun v K' c hc e2 hv hV' hSM h43 => ⟨fun z => absurd z (not_neg hv), fun _ => ⟨2, 12, by omega, by omega, r_cstate hV' (fun c2 hc2 e3 => ⟨fun _ => ?_, fun z => ?_⟩) (fun z => absurd (by rw [e2]; exact in_nI hc (by omega)) z)⟩⟩)⟩
    · exact e_955 ht hbk hV' (bd_sm hSM hB) (hSM.1.trans hal) hM (Or.inl hv) (by omega) (by omega)
    · have : c = c2 := nI_inj hc hc2 (by omega) (e2.symm.trans e3)
      subst this
      exact absurd h43 z
  · -- duel
    refine ⟨50, 1000, by omega, by omega, k_duel (by omega) hV (fun v hv => ⟨fun _ => ?_, fun z => absurd hv z⟩) (fun K' hV' hSM hlt => ⟨fun z => absurd z (nI_pos (by omega)), fun _ => ?_⟩)⟩
    · unfold wL_law_342
      rw [Int32.add_zero]
      exact fl v _ _ (by omega) (by omega)
    · unfold wL_law_342
      rw [nI_1]
      exact e_955 ht hbk hV' (bd_sm hSM hB) (hSM.1.trans hal) hM (Or.inl (nI_pos' (by omega))) (by omega) (by omega)
  · -- make
    have mk : ∀ q : Int32, wL_law_282 bk (uc + 500) (us + 3000) (nI np) (nI nc) (nI nd) (nI no) al (nI t) l10 (sQ K np nc nd no) q K M := by
      intro q
      unfold wL_law_282
      refine low_ok (n := 17) (by omega) (by omega) ?_
      refine ⟨20, 14000, by omega, by omega, k_make (by omega) hV (fun v hv => ⟨fun _ => ?_, fun z => absurd hv z⟩) (fun K' hV' hSM hlt => ⟨fun z => absurd z (nI_pos (by omega)), fun _ => ?_⟩)⟩
      · unfold wL_law_306
        rw [Int32.add_zero]
        exact fl v _ _ (by omega) (by omega)
      · unfold wL_law_306
        rw [nI_1]
        exact e_955 ht hbk hV' (bd_sm hSM hB) (hSM.1.trans hal) hM (Or.inl (nI_pos' (by omega))) (by omega) (by omega)
    exact ⟨fun _ => mk _, fun _ => mk _⟩
  · -- player
    refine low_ok (n := 300) (by omega) (by omega) ?_
    obtain ⟨a, ha, ea⟩ := low_nI (v := l10) (n := 300) (by omega) (by omega)
    refine ⟨1, 6, by omega, by omega, k_player (by omega) hV (fun v hv => ⟨fun _ => ?_, fun z => absurd hv z⟩) (fun hlt _ _ K' hV' h02 h03 h10 => ⟨fun z => absurd z (nI_pos (by omega)), fun _ => low_ok (n := 300) (by omega) (by omega) ?_⟩)⟩
    · unfold wL_law_239 wL_law_253
      rw [Int32.add_zero, Int32.add_zero]
      exact ⟨fun _ => fl v _ _ (by omega) (by omega), fun z => absurd hv z⟩
    · unfold wL_law_239 wL_law_253
      refine ⟨fun z => absurd z (nI_pos (by omega)), fun _ => ?_⟩
      rw [nI_1]
      rw [ea] at h10
      refine e_955 ht hbk hV' (bd_new ha h10 h03 hB) ?_ hM (Or.inl (nI_pos' (by omega))) (by omega) (by omega)
      rw [h02, hal]
