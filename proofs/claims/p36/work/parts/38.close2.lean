
-- k rows
theorem k_close {t np nc nd no : Nat} {sn : Nat → Nat} {K : KS} {G : Int32 → KS → Prop} {p1 p2 p3 : Int32} (ht : t < 512) (hI : V36 t np nc nd no sn K) (hf : ∀ v : Int32, v < 0 → G v K) (hK : ∀ v K', 0 ≤ v → V36 (t+1) np nc nd no sn K' → K' 0 2 0 = K 0 2 0 → (∀ B : Nat, B < 2 ^ 30 → BD np B K → BD np (B + 60000) K') → G v K') : wpL_c18 G 2 12 K p1 p2 p3 := by
  obtain ⟨ns, P, r, cn, dp, ew, go, bl, sl, sk, M, ap, h⟩ := hI
  have np3 := rx_np3 h
  have nc2 := rx_nc2 h
  have nc3 := rx_nc3 h
  have nc4 := rx_nc4 h
  have nd1 := rx_nd1 h
  have nd2 := rx_nd2 h
  have nd3 := rx_nd3 h
  have nd4 := rx_nd4 h
  have no2 := rx_no2 h
  have no3 := rx_no3 h
  have no4 := rx_no4 h
  have ns1 := rx_ns1 h
  have ns3 := rx_ns3 h
  have lc1 := rx_lc1 h
  have lc3 := rx_lc3 h
  have l1 := rx_l1 h
  have av := rx_av h
  have ab := rx_ab h
  have c3 := rx_c3 h
  have c7 := rx_c7 h
  have d2 := rx_d2 h
  have d7 := rx_d7 h
  have d8 := rx_d8 h
  have o2 := rx_o2 h
  have o3 := rx_o3 h
  have o4 := rx_o4 h
  have o5 := rx_o5 h
  have o6 := rx_o6 h
  have o8 := rx_o8 h
  have hC : nC K = nc := nC_of nc2 (by omega)
  have hD : nD K = nd := nD_of nd2 (by omega)
  have hO : nO K = no := nO_of no2 (by omega)
  unfold wpL_c18 wpX6_close
  refine ⟨1, 6, by omega, by omega, at_duel nd1 nd2 lc1 nd4 l1 (fun d hd e => ?_) (fun _ => ⟨by omega, by omega, xI (hf _ (by decide))⟩)⟩
  · subst e
    obtain ⟨a1, a2, a3, a4, a5⟩ := d2 d hd
    have hdp : d < nD K := by omega
    rw [a2, phv_101 a4]
    refine ⟨hdp, fun q => ?_, fun q => ⟨by omega, by omega, xU (hf _ (by decide))⟩⟩
    · have F0 := fun f g => cl_free (K := k3 K 6 2 d 102) (s := 2 * d) (n := cn (2 * d)) (sk := sk (2 * d)) hD hC (by omega) nc4 (d7 (2 * d) (by omega)).1 (d7 (2 * d) (by omega)).2.2.2 (d7 (2 * d) (by omega)).2.2.1 (fun i hi => ⟨(d8 (2 * d) (by omega) i hi).1, (d8 (2 * d) (by omega) i hi).2.2⟩) (post := f) (cn (2 * d)) 0 (K 4 3) (K 4 5) (by omega) g
      unfold wpX6_freeCards
      refine ⟨cn (2 * d) + 1, ?_⟩
      have es : k3 K 6 2 d 102 = kr (kr (k3 K 6 2 d 102) 4 3 (K 4 3)) 4 5 (K 4 5) := by
        rw [show K 4 3 = (k3 K 6 2 d 102) 4 3 from rfl, kr_id, show K 4 5 = (k3 K 6 2 d 102) 4 5 from rfl, kr_id]
      rw [es]
      refine F0 _ ⟨hdp, cn (2 * d + 1) + 1, ?_⟩
      refine cl_free (K := k3 K 6 2 d 102) (s := 2 * d + 1) (n := cn (2 * d + 1)) (sk := sk (2 * d + 1)) hD hC (by omega) nc4 (d7 (2 * d + 1) (by omega)).1 (d7 (2 * d + 1) (by omega)).2.2.2 (d7 (2 * d + 1) (by omega)).2.2.1 (fun i hi => ⟨(d8 (2 * d + 1) (by omega) i hi).1, (d8 (2 * d + 1) (by omega) i hi).2.2⟩) (cn (2 * d + 1)) 0 _ _ (by omega) ?_
      obtain ⟨K1, hK1⟩ : ∃ k, k = kr (kr (k3 K 6 2 d 102) 4 3 (stF (sk (2 * d + 1)) 45 0 (cn (2 * d + 1)) (stF (sk (2 * d)) 45 0 (cn (2 * d)) (K 4 3)))) 4 5 (stF (sk (2 * d + 1)) (-1) 0 (cn (2 * d + 1)) (stF (sk (2 * d)) (-1) 0 (cn (2 * d)) (K 4 5))) := ⟨_, rfl⟩
      rw [← hK1]
      unfold wpX6_payOutSales
      refine ⟨ns + 1, ?_⟩
      have hin : ∀ i j, i < ns → j < ns → sl i = sl j → i = j := fun i j hi hj q => by
        have w1 := (o8 i hi).2.2.1
        have w2 := (o8 j hj).2.2.1
        rw [q] at w1
        exact (nI_eq (by omega) (by omega)).mp (w1.symm.trans w2)
      have P0 := fun f g => cl_pay (K := K1) (no := no) (ns := ns) (np := np) (d := d) (sl := sl) (post := f) (by rw [hK1]; exact hO) (by rw [hK1]; exact ns1) (by rw [hK1]; exact lc3) (by omega) np3 no4 (by rw [hK1]; exact fun j hj => ⟨(o8 j hj).1, (o8 j hj).2.1⟩) hin (by rw [hK1]; exact fun k hk => (o4 k hk).2) g ns 0 (by omega)
      rw [← kP_0 K1 d sl]
      refine P0 _ ?_
      have kD : d < nD (kP K1 d sl ns) := by rw [hK1]; exact hdp
      have k8 : ∀ m, (kP K1 d sl ns) 8 2 m = K 8 2 m := fun m => by rw [hK1]; rfl
      unfold wpX2_countStaked
      refine ⟨kD, kD, ?_⟩
      rw [k8, k8, (d7 (2 * d) (by omega)).1, (d7 (2 * d + 1) (by omega)).1, nI_add, ← c7 d hd (by omega)]
      rw [hK1]
      refine hK _ _ (nI_pos' (by have := cntE_le (K 4 5) (nI d) nc; omega)) ⟨ns, P, r, cn, dp, _, go, bl, sl, sk, _, _, rr_close h ht hd q⟩ rfl (fun B hB hb => ?_)
      have w : ∀ k, k < no → ∃ x, 1 ≤ x ∧ x ≤ 999 ∧ K 5 1 k = nI x := fun k hk => (o2 k hk).2
      exact bd_pay (K1 := kr (kr (k3 K 6 2 d 102) 4 3 (stF (sk (2 * d + 1)) 45 0 (cn (2 * d + 1)) (stF (sk (2 * d)) 45 0 (cn (2 * d)) (K 4 3)))) 4 5 (stF (sk (2 * d + 1)) (-1) 0 (cn (2 * d + 1)) (stF (sk (2 * d)) (-1) 0 (cn (2 * d)) (K 4 5)))) (d := d) (sl := sl) (by omega) (fun j hj => w _ (o8 j hj).2.1) B hB hb
