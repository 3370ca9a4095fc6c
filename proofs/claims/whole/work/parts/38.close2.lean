/-! close, the call -/
theorem c_close {t uc us : Nat} {K M : KS} {ap o : Int64} {od : UInt64} {p1 : Int32} (ht : t < 512) (hI : InvC t uc us K M ap) : st_close (InvC (t + 1)) uc us K M ap o od p1 := by
  obtain ⟨_, hu, hs, np, nc, nd, no, ns, P, r, cn, sn, dp, ew, go, bl, sl, sk, h⟩ := hI
  have np3 := rx_np3 h
  have nc2 := rx_nc2 h
  have nc3 := rx_nc3 h
  have nc4 := rx_nc4 h
  have nd1 := rx_nd1 h
  have nd2 := rx_nd2 h
  have nd3 := rx_nd3 h
  have nd4 := rx_nd4 h
  have no2 := rx_no2 h
  have no3 := rx_no3 h
  have no4 := rx_no4 h
  have ns1 := rx_ns1 h
  have ns3 := rx_ns3 h
  have lc1 := rx_lc1 h
  have lc3 := rx_lc3 h
  have l1 := rx_l1 h
  have av := rx_av h
  have ab := rx_ab h
  have c3 := rx_c3 h
  have c7 := rx_c7 h
  have d2 := rx_d2 h
  have d7 := rx_d7 h
  have d8 := rx_d8 h
  have o2 := rx_o2 h
  have o3 := rx_o3 h
  have o4 := rx_o4 h
  have o5 := rx_o5 h
  have o6 := rx_o6 h
  have o8 := rx_o8 h
  have hC : nC K = nc := nC_of nc2 (by omega)
  have hD : nD K = nd := nD_of nd2 (by omega)
  have hO : nO K = no := nO_of no2 (by omega)
  have fin : ∀ (v : Int32), v ≠ 0 → wpX7_fails (fun r22 M23 ap24 => wpX7_thrown (fun r1 => r1 = v ∧ (v = 0 → o = r22.toInt64) ∧ InvC (t + 1) (uc + 2) (us + 12) K M23 ap24) M23 ap24) (k3 M 3 0 0 0) ap v := by
    intro v hv
    unfold wpX7_fails wpX7_thrown
    exact ⟨rfl, fun q => absurd q hv, inv_rd2 0 v ht hu hs (by omega) (by omega) h⟩
  unfold st_close wpL_close wpX6_close
  refine ⟨2, 12, by omega, by omega, 1, 6, by omega, by omega, at_duel nd1 nd2 lc1 nd4 l1 (fun d hd e => ?_) (fun z => ⟨by omega, by omega, Or.inl ⟨rfl, ?_⟩⟩)⟩
  · subst e
    obtain ⟨a1, a2, a3, a4, a5⟩ := d2 d hd
    have e16 : (k3 M 3 0 0 0) 13 16 (nI d).toNatClampNeg = phv (ew d) (go d) := by rw [nI_clamp (by omega)]; exact a1.symm.trans a2
    have hdp : d < nD K := by omega
    rw [a2, phv_101 a4]
    refine ⟨hdp, fun q => ?_, fun q => ⟨by omega, by omega, Or.inr ⟨rfl, ?_⟩⟩⟩
    · have F0 := fun f g => cl_free (K := k3 K 6 2 d 102) (s := 2 * d) (n := cn (2 * d)) (sk := sk (2 * d)) hD hC (by omega) nc4 (d7 (2 * d) (by omega)).1 (d7 (2 * d) (by omega)).2.2.2 (d7 (2 * d) (by omega)).2.2.1 (fun i hi => ⟨(d8 (2 * d) (by omega) i hi).1, (d8 (2 * d) (by omega) i hi).2.2⟩) (post := f) (cn (2 * d)) 0 (K 4 3) (K 4 5) (by omega) g
      unfold wpX6_freeCards
      refine ⟨cn (2 * d) + 1, ?_⟩
      have es : k3 K 6 2 d 102 = kr (kr (k3 K 6 2 d 102) 4 3 (K 4 3)) 4 5 (K 4 5) := by
        rw [show K 4 3 = (k3 K 6 2 d 102) 4 3 from rfl, kr_id, show K 4 5 = (k3 K 6 2 d 102) 4 5 from rfl, kr_id]
      rw [es]
      refine F0 _ ⟨hdp, cn (2 * d + 1) + 1, ?_⟩
      refine cl_free (K := k3 K 6 2 d 102) (s := 2 * d + 1) (n := cn (2 * d + 1)) (sk := sk (2 * d + 1)) hD hC (by omega) nc4 (d7 (2 * d + 1) (by omega)).1 (d7 (2 * d + 1) (by omega)).2.2.2 (d7 (2 * d + 1) (by omega)).2.2.1 (fun i hi => ⟨(d8 (2 * d + 1) (by omega) i hi).1, (d8 (2 * d + 1) (by omega) i hi).2.2⟩) (cn (2 * d + 1)) 0 _ _ (by omega) ?_
      obtain ⟨K1, hK1⟩ : ∃ k, k = kr (kr (k3 K 6 2 d 102) 4 3 (stF (sk (2 * d + 1)) 45 0 (cn (2 * d + 1)) (stF (sk (2 * d)) 45 0 (cn (2 * d)) (K 4 3)))) 4 5 (stF (sk (2 * d + 1)) (-1) 0 (cn (2 * d + 1)) (stF (sk (2 * d)) (-1) 0 (cn (2 * d)) (K 4 5))) := ⟨_, rfl⟩
      rw [← hK1]
      unfold wpX6_payOutSales
      refine ⟨ns + 1, ?_⟩
      have hin : ∀ i j, i < ns → j < ns → sl i = sl j → i = j := fun i j hi hj q => by
        have w1 := (o8 i hi).2.2.1
        have w2 := (o8 j hj).2.2.1
        rw [q] at w1
        exact (nI_eq (by omega) (by omega)).mp (w1.symm.trans w2)
      have P0 := fun f g => cl_pay (K := K1) (no := no) (ns := ns) (np := np) (d := d) (sl := sl) (post := f) (by rw [hK1]; exact hO) (by rw [hK1]; exact ns1) (by rw [hK1]; exact lc3) (by omega) np3 no4 (by rw [hK1]; exact fun j hj => ⟨(o8 j hj).1, (o8 j hj).2.1⟩) hin (by rw [hK1]; exact fun k hk => (o4 k hk).2) g ns 0 (by omega)
      rw [← kP_0 K1 d sl]
      refine P0 _ ?_
      have kD : d < nD (kP K1 d sl ns) := by rw [hK1]; exact hdp
      have k8 : ∀ m, (kP K1 d sl ns) 8 2 m = K 8 2 m := fun m => by rw [hK1]; rfl
      unfold wpX2_countStaked
      refine ⟨kD, kD, ?_⟩
      rw [k8, k8, (d7 (2 * d) (by omega)).1, (d7 (2 * d + 1) (by omega)).1, nI_add, ← c7 d hd (by omega)]
      unfold wpX7_close
      refine ms_duel (n := nd) nd3 nd4 (fun _ _ _ => ⟨fun _ => ⟨vp_in_nI (by omega) (by omega), ?_⟩, fun q => absurd q (by decide)⟩) (fun z => absurd (in_nI hd (by omega)) z)
      rw [e16, phv_101 a4, nI_clamp (by omega)]
      refine ⟨fun _ => ⟨nc + 1, ?_⟩, fun z => absurd q z⟩
      have hcq : ∀ c, c < nc → ((M 16 9 c = nI d ∧ M 13 8 c = 119) ↔ K 4 5 c = nI d) := fun c hc => by
        obtain ⟨y1, y2⟩ := c3 c hc
        constructor
        · intro w
          rcases y2 with y | ⟨y, _⟩
          · rw [← y1, y.1] at w
            exact absurd w.2 (by decide)
          · exact y.trans w.1
        · intro w
          rcases y2 with y | ⟨y, d3, w1, w2, w3⟩
          · rw [y.2] at w
            exact absurd w.symm (nI_neg1 (by omega))
          · have : d3 = d := (nI_eq (by omega) (by omega)).mp (w2.symm.trans w)
            rw [this, q] at w3
            refine ⟨y.symm.trans w, y1.symm.trans ?_⟩
            rcases w3 with w3 | w3
            · exact absurd w3.1 (by decide)
            · exact w3.2
      have em : k3 (k3 M 3 0 0 0) 13 16 d 102 = kr (k3 (k3 M 3 0 0 0) 13 16 d 102) 13 8 (fD (K 4 5) (nI d) ((k3 (k3 M 3 0 0 0) 13 16 d 102) 13 8) 0) := by
        rw [show fD (K 4 5) (nI d) ((k3 (k3 M 3 0 0 0) 13 16 d 102) 13 8) 0 = (k3 (k3 M 3 0 0 0) 13 16 d 102) 13 8 from funext fun c => by unfold fD; rw [if_neg (fun w => Nat.not_lt_zero c w.1)], kr_id]
      rw [em]
      refine ml_48 (M := k3 (k3 M 3 0 0 0) 13 16 d 102) (k45 := K 4 5) nc3 nc4 hcq ⟨no + 1, ?_⟩ nc 0 (by omega)
      have hoq : ∀ k, k < no → ((M 13 32 k = 98 ∧ M 16 35 k = nI d) ↔ K 5 5 k = nI d) := fun k hk => by
        obtain ⟨y1, y2⟩ := o3 k hk
        constructor
        · intro w
          rw [(o5 k hk (y1.trans w.1)).2.2.2.1]
          exact w.2
        · intro w
          rcases o6 k hk with y | ⟨y, _⟩
          · rw [y] at w
            exact absurd w.symm (nI_neg1 (by omega))
          · exact ⟨y1.symm.trans y, (o5 k hk y).2.2.2.1.symm.trans w⟩
      have L0 := fun f g => ml_96 (post := f) (M := kr (k3 (k3 M 3 0 0 0) 13 16 d 102) 13 8 (fD (K 4 5) (nI d) (M 13 8) nc)) (K := K) (no := no) (np := np) (d := d) (n := cntE (K 4 5) (nI d) nc) (A := K 0 4 0) no3 no4 np3 hoq (fun k hk => (o2 k hk).1.symm) (fun k hk => by obtain ⟨_, x, _, b, c⟩ := o2 k hk; exact ⟨x, b, c⟩) (fun k hk => ⟨(o4 k hk).1.symm, (o4 k hk).2⟩) (by omega) g no 0 (by omega)
      rw [mQ_0, show (K 0 4 0 - sumI (fPr K d) 0).toInt64 = ap from by rw [show sumI (fPr K d) 0 = 0 from rfl, Int32.sub_zero]; exact av] at L0
      refine L0 _ ?_
      unfold wpX7_thrown
      refine ⟨rfl, fun _ => rfl, ?_⟩
      rw [hK1]
      exact inv_mk ht hu hs (by omega) (by omega) (rr_close h ht hd q)
    · unfold wpX7_close
      refine ms_duel (n := nd) nd3 nd4 (fun _ _ _ => ⟨fun _ => ⟨vp_in_nI (by omega) (by omega), ?_⟩, fun q => absurd q (by decide)⟩) (fun z => absurd (in_nI hd (by omega)) z)
      rw [e16, phv_101 a4]
      exact ⟨fun z => absurd z q, fun _ => fin 2 (by decide)⟩
  · unfold wpX7_close
    refine ms_duel (n := nd) nd3 nd4 (fun j hj e => absurd (by rw [e]; exact in_nI hj (by omega)) z) (fun _ => ⟨fun q => absurd rfl q, fun _ => fin 1 (by decide)⟩)
