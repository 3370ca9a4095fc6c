/-! snapshot, the call -/
theorem c_snapshot {t uc us : Nat} {K M : KS} {ap o : Int64} {od : UInt64} {p1 : Int32} (ht : t < 512) (hI : InvC t uc us K M ap) : st_snapshot (InvC (t + 1)) uc us K M ap o od p1 := by
  obtain ⟨_, hu, hs, np, nc, nd, no, ns, P, r, cn, sn, dp, ew, go, bl, sl, sk, h⟩ := hI
  have nd1 := rx_nd1 h
  have nd2 := rx_nd2 h
  have nd3 := rx_nd3 h
  have nd4 := rx_nd4 h
  have lc1 := rx_lc1 h
  have l1 := rx_l1 h
  have d2 := rx_d2 h
  have d3 := rx_d3 h
  have d5 := rx_d5 h
  have d6 := rx_d6 h
  have d7 := rx_d7 h
  have d9 := rx_d9 h
  have d10 := rx_d10 h
  have d11 := rx_d11 h
  have n0 := rx_n0 h
  have n1 := rx_n1 h
  have n2 := rx_n2 h
  have hD : nD K = nd := nD_of nd2 (by omega)
  have fin : ∀ (v : Int32), v ≠ 0 → wpX7_fails (fun r22 M23 ap24 => wpX7_thrown (fun r1 => r1 = v ∧ (v = 0 → o = r22.toInt64) ∧ InvC (t + 1) (uc + 2) (us + 12) K M23 ap24) M23 ap24) (k3 M 3 0 0 0) ap v := by
    intro v hv
    unfold wpX7_fails wpX7_thrown
    exact ⟨rfl, fun q => absurd q hv, inv_rd2 0 v ht hu hs (by omega) (by omega) h⟩
  unfold st_snapshot wpL_snapshot wpX6_snapshot
  refine ⟨2, 12, by omega, by omega, 1, 6, by omega, by omega, at_duel nd1 nd2 lc1 nd4 l1 (fun d hd e => ?_) (fun z => ⟨by omega, by omega, Or.inl ⟨rfl, ?_⟩⟩)⟩
  · subst e
    obtain ⟨a1, a2, a3, a4, a5⟩ := d2 d hd
    obtain ⟨b1, b2, b3, b4⟩ := n1 d (by omega)
    obtain ⟨v1, v2, v3, v4⟩ := d10 d hd
    have hdp : d < nD K := by omega
    have e16 : (k3 M 3 0 0 0) 13 16 (nI d).toNatClampNeg = phv (ew d) (go d) := by rw [nI_clamp (by omega)]; exact a1.symm.trans a2
    have e26 : (k3 M 3 0 0 0) 16 26 (nI d).toNatClampNeg = nI (sn d) := by rw [nI_clamp (by omega)]; exact b1
    rw [a2, phv_103 a4, n0 d hd]
    refine ⟨hdp, fun q => ⟨fun q2 => ?_, fun q2 => ⟨by omega, by omega, Or.inr (Or.inr ⟨rfl, ?_⟩)⟩⟩, fun q => ⟨by omega, by omega, Or.inr (Or.inl ⟨rfl, ?_⟩)⟩⟩
    · have hs6 : sn d < 6 := (nI_ltI (b := 6) (by omega) (by omega)).mp q2
      refine cl_write hD hd v1 v3 (fun f hf => ⟨hdp, ?_⟩)
      have mrun : ∀ post : Int32 → KS → Int64 → Prop, (∀ g g2, gOK M K d (sn d) (dp d) 24 g → (∀ i, i < 16 → g2 (16 * (6 * d + sn d) + i) = M 16 25 (16 * d + i)) → (∀ j, (j < 16 * (6 * d + sn d) ∨ 16 * (6 * d + sn d) + 16 ≤ j) → g2 j = M 16 28 j) → post (nI (sn d)) (k3 (mK (k3 M 3 0 0 0) g g2) 16 26 d (nI (sn d + 1))) ap) → wpX7_snapshot post M ap (nI d) := by
        intro post w
        have i0 : (2 : Int32) * nI d = nI (2 * d) := nI_mul 2 d
        have i1 : (2 : Int32) * nI d + 1 = nI (2 * d + 1) := ix2 d 1
        have i24 : (24 : Int32) * (6 * nI d + nI (sn d)) = nI (24 * (6 * d + sn d)) := by rw [ix6]; exact nI_mul 24 _
        have j1 : nI (24 * (6 * d + sn d)) + 1 = nI (24 * (6 * d + sn d) + 1) := nI_add _ 1
        have j2 : nI (24 * (6 * d + sn d)) + 2 = nI (24 * (6 * d + sn d) + 2) := nI_add _ 2
        have j3 : nI (24 * (6 * d + sn d)) + 3 = nI (24 * (6 * d + sn d) + 3) := nI_add _ 3
        unfold wpX7_snapshot
        refine ms_duel (n := nd) nd3 nd4 (fun _ _ _ => ⟨fun _ => ⟨vp_in_nI (by omega) (by omega), ?_⟩, fun q => absurd q (by decide)⟩) (fun z => absurd (in_nI hd (by omega)) z)
        rw [e16, phv_103 a4, e26, i24]
        refine ⟨fun _ => ⟨vp_in_nI (by omega) (by omega), fun _ => ?_, fun z => absurd ((nI_eq (b := 6) (by omega) (by omega)).mp z) (by omega)⟩, fun z => absurd q z⟩
        intro x7 hx
        subst hx
        rw [i1, i0, j1, j2, j3, nI_clamp (n := 2 * d) (by omega), nI_clamp (n := 2 * d + 1) (by omega), nI_clamp (n := d) (by omega), nI_clamp (n := 24 * (6 * d + sn d)) (by omega), nI_clamp (n := 24 * (6 * d + sn d) + 1) (by omega), nI_clamp (n := 24 * (6 * d + sn d) + 2) (by omega), nI_clamp (n := 24 * (6 * d + sn d) + 3) (by omega)]
        refine ⟨vp_in_nI (by omega) (by omega), vp_in_nI (by omega) (by omega), vp_in_nI (by omega) (by omega), vp_in_nI (by omega) (by omega), vp_in_nI (by omega) (by omega), vp_in_nI (by omega) (by omega), vp_in_nI (by omega) (by omega), vp_in_nI (by omega) (by omega), 17, ?_⟩
        have es : k3 (k3 (k3 (k3 (k3 M 3 0 0 0) 16 27 (24 * (6 * d + sn d)) (M 16 18 (2 * d))) 16 27 (24 * (6 * d + sn d) + 1) (M 16 18 (2 * d + 1))) 16 27 (24 * (6 * d + sn d) + 2) (M 16 19 d)) 16 27 (24 * (6 * d + sn d) + 3) (M 16 20 d) = mK (k3 M 3 0 0 0) (va_up (va_up (va_up (va_up (M 16 27) (24 * (6 * d + sn d)) (M 16 18 (2 * d))) (24 * (6 * d + sn d) + 1) (M 16 18 (2 * d + 1))) (24 * (6 * d + sn d) + 2) (M 16 19 d)) (24 * (6 * d + sn d) + 3) (M 16 20 d)) (M 16 28) := by
          rw [← mK_27, ← mK_27, ← mK_27, ← mK_27]
          have : mK (k3 M 3 0 0 0) (M 16 27) (M 16 28) = k3 M 3 0 0 0 := by
            unfold mK
            rw [show M 16 27 = (k3 M 3 0 0 0) 16 27 from rfl, kr_id, show M 16 28 = (k3 M 3 0 0 0) 16 28 from rfl, kr_id]
          rw [this]
        show wX7_snapshot_130 post 17 (nI d) (nI (24 * (6 * d + sn d))) 0 (k3 (k3 (k3 (k3 (k3 M 3 0 0 0) 16 27 (24 * (6 * d + sn d)) (M 16 18 (2 * d))) 16 27 (24 * (6 * d + sn d) + 1) (M 16 18 (2 * d + 1))) 16 27 (24 * (6 * d + sn d) + 2) (M 16 19 d)) 16 27 (24 * (6 * d + sn d) + 3) (M 16 20 d)) ap
        rw [es]
        have gg : gOK (k3 M 3 0 0 0) K d (sn d) (dp d) 4 (va_up (va_up (va_up (va_up (M 16 27) (24 * (6 * d + sn d)) (M 16 18 (2 * d))) (24 * (6 * d + sn d) + 1) (M 16 18 (2 * d + 1))) (24 * (6 * d + sn d) + 2) (M 16 19 d)) (24 * (6 * d + sn d) + 3) (M 16 20 d)) := by
          obtain ⟨τ, t1, t2, t3, t4⟩ := d6 d hd q.1
          have s0 : gOK (k3 M 3 0 0 0) K d (sn d) (dp d) 0 (M 16 27) := ⟨fun i _ hi => absurd hi (Nat.not_lt_zero i), fun j _ => rfl⟩
          have s1 := gOK_step (u := 0) (by omega) s0 (v := M 16 18 (2 * d)) (by unfold nmS; exact (d3 (2 * d) (by omega)).symm)
          have s2 := gOK_step (u := 1) (by omega) s1 (v := M 16 18 (2 * d + 1)) (by unfold nmS; exact (d3 (2 * d + 1) (by omega)).symm)
          have s3 := gOK_step (u := 2) (by omega) s2 (v := M 16 19 d) (by unfold nmS; exact ((d5 d hd q.1).2.2 q.2).symm)
          exact gOK_step (u := 3) (by omega) s3 (v := M 16 20 d) (by unfold nmS; exact t3.trans t2.symm)
        exact ml_s130 (M := k3 M 3 0 0 0) (K := K) (cn := cn) (by omega) hs6 v3 b1 v2 (fun i hi => (d11 d hd i (by omega)).1.symm) (fun e he => ⟨(d7 (2 * d + e) (by omega)).2.1, (d7 (2 * d + e) (by omega)).2.2.1⟩) (fun e he i hi => (d9 (2 * d + e) (by omega) i hi).2) w 16 0 _ _ (by omega) gg (fun i hi => absurd hi (Nat.not_lt_zero i)) (fun j _ => rfl)
      -- the row that the reference will hold, known ahead
      obtain ⟨g, hg⟩ : ∃ g, gOK M K d (sn d) (dp d) 24 g := ⟨fun j => if 24 * (6 * d + sn d) ≤ j ∧ j < 24 * (6 * d + sn d) + 24 then nmS K d (dp d) (j - 24 * (6 * d + sn d)) else M 16 27 j, fun i hi _ => by
        show (if 24 * (6 * d + sn d) ≤ 24 * (6 * d + sn d) + i ∧ 24 * (6 * d + sn d) + i < 24 * (6 * d + sn d) + 24 then nmS K d (dp d) (24 * (6 * d + sn d) + i - 24 * (6 * d + sn d)) else M 16 27 (24 * (6 * d + sn d) + i)) = _
        rw [if_pos ⟨by omega, by omega⟩, show 24 * (6 * d + sn d) + i - 24 * (6 * d + sn d) = i by omega], fun j hj => by
        show (if 24 * (6 * d + sn d) ≤ j ∧ j < 24 * (6 * d + sn d) + 24 then nmS K d (dp d) (j - 24 * (6 * d + sn d)) else M 16 27 j) = _
        rw [if_neg (by omega)]⟩
      have hBg : BS (pI sn (36 * d + 6 * sn d) 0) bl (K 10 2) (K 10 3) ((kB (kr K 10 1 f) (6 * d + sn d) (K 10 2) (K 10 3) (K 19 (6 * d + sn d))) 19) g := by
        have e19 : ∀ x y, (kB (kr K 10 1 f) (6 * d + sn d) (K 10 2) (K 10 3) (K 19 (6 * d + sn d))) 19 x y = K 19 x y := fun x y => by
          rw [kB_19]
          by_cases z : x = 6 * d + sn d
          · rw [if_pos z, z]
          · rw [if_neg z]
            rfl
        refine BS_cong (p := kpB sn) (fun R hR => by
          unfold pI
          rw [decide_eq_false (p := 36 * d + 6 * sn d ≤ R ∧ R < 36 * d + 6 * sn d + 0) (by omega), Bool.or_false]) ?_
        obtain ⟨w1, w2, w3⟩ := n2
        refine ⟨fun R hR hk => ?_, w2, w3⟩
        obtain ⟨u1, u2, u3⟩ := w1 R hR hk
        rw [e19]
        refine ⟨u1, u2, fun j hj => ?_⟩
        rw [u3 j hj]
        refine (hg.2 _ ?_).symm
        have hkk := of_decide_eq_true (show decide (R / 6 % 6 < sn (R / 36)) = true from hk)
        rcases (by omega : R / 36 = d ∨ R / 36 ≠ d) with z | z
        · rw [z] at hkk
          omega
        · omega
      unfold wpX2_keep
      have e68 : (kr K 10 1 f) 6 8 d = nI (sn d) := n0 d hd
      rw [e68]
      refine ⟨hdp, fun z => absurd z (nI_ge (a := sn d) (b := 6) hs6 (by omega)), fun _ => ⟨fun _ => ⟨7, ?_⟩, fun z => absurd (nI_le (a := 24) (b := 24) (by omega) (by omega)) z⟩⟩
      have start : kr K 10 1 f = kB (kr K 10 1 f) (6 * d + sn d) (K 10 2) (K 10 3) (K 19 (6 * d + sn d)) := by
        unfold kB
        rw [show K 10 2 = (kr K 10 1 f) 10 2 from rfl, kr_id, show K 10 3 = (kr K 10 1 f) 10 3 from rfl, kr_id, show K 19 (6 * d + sn d) = (kr K 10 1 f) 19 (6 * d + sn d) from rfl, kr_id]
      have KK := fun post hp => cl_keep (post := post) (K := kr K 10 1 f) (d := d) (s := sn d) (nd := nd) (sn := sn) (m := g) hD hd nd4 (n0 d hd) hs6 rfl (fun i hi => (hg.1 i hi hi).trans (hf i hi).symm) hp 6 0 bl (K 10 2) (K 10 3) (K 19 (6 * d + sn d)) (by omega) hBg
      rw [← start] at KK
      refine KK _ (fun bl2 k2 ks gg hBS => ⟨hdp, ?_⟩)
      have e9 : (k3 (kr (kB (kr K 10 1 f) (6 * d + sn d) k2 ks gg) 20 (6 * d + sn d) (va_cpy ((kr K 10 1 f) 17 d) ((kr K 10 1 f) 20 (6 * d + sn d)) 0 0 8)) 6 8 d (nI (sn d + 1))) 6 8 d = nI (sn d + 1) := k3_s _ _ _ _ _
      rw [e9, nI_pred]
      refine mrun _ (fun g3 g4 h3 h4 h5 => ?_)
      have hBS2 : BS (pI sn (36 * d + 6 * sn d) 6) bl2 k2 ks ((kB (kr K 10 1 f) (6 * d + sn d) k2 ks gg) 19) g3 := by
        have : g3 = g := funext fun j => by
          by_cases z : 24 * (6 * d + sn d) ≤ j ∧ j < 24 * (6 * d + sn d) + 24
          · have e1 := h3.1 (j - 24 * (6 * d + sn d)) (by omega) (by omega)
            have e2 := hg.1 (j - 24 * (6 * d + sn d)) (by omega) (by omega)
            rw [show 24 * (6 * d + sn d) + (j - 24 * (6 * d + sn d)) = j by omega] at e1 e2
            exact e1.trans e2.symm
          · exact (h3.2 j (by omega)).trans (hg.2 j (by omega)).symm
        rw [this]
        exact hBS
      unfold wpX7_thrown
      exact ⟨rfl, fun _ => rfl, inv_mk ht hu hs (by omega) (by omega) (rr_snap h hd q.1 q.2 hs6 h3 h4 h5 hBS2)⟩
    · have h6 : sn d = 6 := by
        rcases Nat.lt_or_ge (sn d) 6 with w | w
        · exact absurd (nI_lt (b := 6) w (by omega)) q2
        · omega
      unfold wpX7_snapshot
      refine ms_duel (n := nd) nd3 nd4 (fun _ _ _ => ⟨fun _ => ⟨vp_in_nI (by omega) (by omega), ?_⟩, fun q => absurd q (by decide)⟩) (fun z => absurd (in_nI hd (by omega)) z)
      rw [e16, phv_103 a4, e26, h6]
      exact ⟨fun _ => ⟨vp_in_nI (by omega) (by omega), fun z => absurd rfl z, fun _ => fin 3 (by decide)⟩, fun z => absurd q z⟩
    · unfold wpX7_snapshot
      refine ms_duel (n := nd) nd3 nd4 (fun _ _ _ => ⟨fun _ => ⟨vp_in_nI (by omega) (by omega), ?_⟩, fun q => absurd q (by decide)⟩) (fun z => absurd (in_nI hd (by omega)) z)
      rw [e16, phv_103 a4]
      exact ⟨fun z => absurd z q, fun _ => fin 2 (by decide)⟩
  · unfold wpX7_snapshot
    refine ms_duel (n := nd) nd3 nd4 (fun j hj e => absurd (by rw [e]; exact in_nI hj (by omega)) z) (fun _ => ⟨fun q => absurd rfl q, fun _ => fin 1 (by decide)⟩)
