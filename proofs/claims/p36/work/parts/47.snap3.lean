
-- k rows
/-! snapshot, the call -/
theorem k_snapshot {t np nc nd no : Nat} {sn : Nat → Nat} {K : KS} {G : Int32 → KS → Prop} {p1 p2 p3 : Int32} (ht : t < 512) (hI : V36 t np nc nd no sn K) (hf : ∀ v : Int32, v < 0 → G v K) (hK : ∀ K' d, d < nd → p1 = nI d → sn d < 6 → V36 (t+1) np nc nd no (va_up sn d (sn d + 1)) K' → SM K K' → K' 6 2 d = 103 → NS K' d (sn d) 0 = K' 7 1 (2 * d) → NS K' d (sn d) 2 = K' 6 4 d → G (nI (sn d)) K') : wpL_c19 G 2 12 K p1 p2 p3 := by
  obtain ⟨ns, P, r, cn, dp, ew, go, bl, sl, sk, M, ap, h⟩ := hI
  have nd1 := rx_nd1 h
  have nd2 := rx_nd2 h
  have nd3 := rx_nd3 h
  have nd4 := rx_nd4 h
  have lc1 := rx_lc1 h
  have l1 := rx_l1 h
  have d2 := rx_d2 h
  have d3 := rx_d3 h
  have d5 := rx_d5 h
  have d6 := rx_d6 h
  have d7 := rx_d7 h
  have d9 := rx_d9 h
  have d10 := rx_d10 h
  have d11 := rx_d11 h
  have n0 := rx_n0 h
  have n1 := rx_n1 h
  have n2 := rx_n2 h
  have hD : nD K = nd := nD_of nd2 (by omega)
  unfold wpL_c19 wpX6_snapshot
  refine ⟨1, 6, by omega, by omega, at_duel nd1 nd2 lc1 nd4 l1 (fun d hd e => ?_) (fun _ => ⟨by omega, by omega, xI (hf _ (by decide))⟩)⟩
  · subst e
    obtain ⟨a1, a2, a3, a4, a5⟩ := d2 d hd
    obtain ⟨b1, b2, b3, b4⟩ := n1 d (by omega)
    obtain ⟨v1, v2, v3, v4⟩ := d10 d hd
    have hdp : d < nD K := by omega
    rw [a2, phv_103 a4, n0 d hd]
    refine ⟨hdp, fun q => ⟨fun q2 => ?_, fun q2 => ⟨by omega, by omega, xS (hf _ (by decide))⟩⟩, fun q => ⟨by omega, by omega, xU (hf _ (by decide))⟩⟩
    · have hs6 : sn d < 6 := (nI_ltI (b := 6) (by omega) (by omega)).mp q2
      refine cl_write hD hd v1 v3 (fun f hf => ⟨hdp, ?_⟩)
      -- the row that the reference will hold, known ahead
      obtain ⟨g, hg⟩ : ∃ g, gOK M K d (sn d) (dp d) 24 g := ⟨fun j => if 24 * (6 * d + sn d) ≤ j ∧ j < 24 * (6 * d + sn d) + 24 then nmS K d (dp d) (j - 24 * (6 * d + sn d)) else M 16 27 j, fun i hi _ => by
        show (if 24 * (6 * d + sn d) ≤ 24 * (6 * d + sn d) + i ∧ 24 * (6 * d + sn d) + i < 24 * (6 * d + sn d) + 24 then nmS K d (dp d) (24 * (6 * d + sn d) + i - 24 * (6 * d + sn d)) else M 16 27 (24 * (6 * d + sn d) + i)) = _
        rw [if_pos ⟨by omega, by omega⟩, show 24 * (6 * d + sn d) + i - 24 * (6 * d + sn d) = i by omega], fun j hj => by
        show (if 24 * (6 * d + sn d) ≤ j ∧ j < 24 * (6 * d + sn d) + 24 then nmS K d (dp d) (j - 24 * (6 * d + sn d)) else M 16 27 j) = _
        rw [if_neg (by omega)]⟩
      have hBg : BS (pI sn (36 * d + 6 * sn d) 0) bl (K 10 2) (K 10 3) ((kB (kr K 10 1 f) (6 * d + sn d) (K 10 2) (K 10 3) (K 19 (6 * d + sn d))) 19) g := by
        have e19 : ∀ x y, (kB (kr K 10 1 f) (6 * d + sn d) (K 10 2) (K 10 3) (K 19 (6 * d + sn d))) 19 x y = K 19 x y := fun x y => by
          rw [kB_19]
          by_cases z : x = 6 * d + sn d
          · rw [if_pos z, z]
          · rw [if_neg z]
            rfl
        refine BS_cong (p := kpB sn) (fun R hR => by
          unfold pI
          rw [decide_eq_false (p := 36 * d + 6 * sn d ≤ R ∧ R < 36 * d + 6 * sn d + 0) (by omega), Bool.or_false]) ?_
        obtain ⟨w1, w2, w3⟩ := n2
        refine ⟨fun R hR hk => ?_, w2, w3⟩
        obtain ⟨u1, u2, u3⟩ := w1 R hR hk
        rw [e19]
        refine ⟨u1, u2, fun j hj => ?_⟩
        rw [u3 j hj]
        refine (hg.2 _ ?_).symm
        have hkk := of_decide_eq_true (show decide (R / 6 % 6 < sn (R / 36)) = true from hk)
        rcases (by omega : R / 36 = d ∨ R / 36 ≠ d) with z | z
        · rw [z] at hkk
          omega
        · omega
      unfold wpX2_keep
      have e68 : (kr K 10 1 f) 6 8 d = nI (sn d) := n0 d hd
      rw [e68]
      refine ⟨hdp, fun z => absurd z (nI_ge (a := sn d) (b := 6) hs6 (by omega)), fun _ => ⟨fun _ => ⟨7, ?_⟩, fun z => absurd (nI_le (a := 24) (b := 24) (by omega) (by omega)) z⟩⟩
      have start : kr K 10 1 f = kB (kr K 10 1 f) (6 * d + sn d) (K 10 2) (K 10 3) (K 19 (6 * d + sn d)) := by
        unfold kB
        rw [show K 10 2 = (kr K 10 1 f) 10 2 from rfl, kr_id, show K 10 3 = (kr K 10 1 f) 10 3 from rfl, kr_id, show K 19 (6 * d + sn d) = (kr K 10 1 f) 19 (6 * d + sn d) from rfl, kr_id]
      have KK := fun post hp => cl_keep (post := post) (K := kr K 10 1 f) (d := d) (s := sn d) (nd := nd) (sn := sn) (m := g) hD hd nd4 (n0 d hd) hs6 rfl (fun i hi => (hg.1 i hi hi).trans (hf i hi).symm) hp 6 0 bl (K 10 2) (K 10 3) (K 19 (6 * d + sn d)) (by omega) hBg
      rw [← start] at KK
      refine KK _ (fun bl2 k2 ks gg hBS => ⟨hdp, ?_⟩)
      have e9 : (k3 (kr (kB (kr K 10 1 f) (6 * d + sn d) k2 ks gg) 20 (6 * d + sn d) (va_cpy ((kr K 10 1 f) 17 d) ((kr K 10 1 f) 20 (6 * d + sn d)) 0 0 8)) 6 8 d (nI (sn d + 1))) 6 8 d = nI (sn d + 1) := k3_s _ _ _ _ _
      rw [e9, nI_pred]
      have hgw1 : ∀ i, i < 16 → (fun j => if 16 * (6 * d + sn d) ≤ j ∧ j < 16 * (6 * d + sn d) + 16 then M 16 25 (16 * d + (j - 16 * (6 * d + sn d))) else M 16 28 j) (16 * (6 * d + sn d) + i) = M 16 25 (16 * d + i) := fun i hi => by
        show (if 16 * (6 * d + sn d) ≤ 16 * (6 * d + sn d) + i ∧ 16 * (6 * d + sn d) + i < 16 * (6 * d + sn d) + 16 then _ else _) = _
        rw [if_pos ⟨by omega, by omega⟩, show 16 * (6 * d + sn d) + i - 16 * (6 * d + sn d) = i by omega]
      have hgw2 : ∀ j, (j < 16 * (6 * d + sn d) ∨ 16 * (6 * d + sn d) + 16 ≤ j) → (fun j => if 16 * (6 * d + sn d) ≤ j ∧ j < 16 * (6 * d + sn d) + 16 then M 16 25 (16 * d + (j - 16 * (6 * d + sn d))) else M 16 28 j) j = M 16 28 j := fun j hj => by
        show (if 16 * (6 * d + sn d) ≤ j ∧ j < 16 * (6 * d + sn d) + 16 then _ else _) = _
        rw [if_neg (by omega)]
      have h2 := rr_snap h hd q.1 q.2 hs6 hg hgw1 hgw2 hBS
      have hns : ∀ i, i < 24 → NS (k3 (kr (kB (kr K 10 1 f) (6 * d + sn d) k2 ks gg) 20 (6 * d + sn d) (va_cpy (K 17 d) (K 20 (6 * d + sn d)) 0 0 8)) 6 8 d (nI (sn d + 1))) d (sn d) i = nmS K d (dp d) i := fun i hi => by
        have e2 := ns_val h2 hd (s := sn d) (by rw [va_up_s]; omega) hi
        exact e2.trans (hg.1 i hi hi)
      refine hK _ d hd rfl hs6 ⟨ns, P, r, cn, dp, ew, go, bl2, sl, sk, _, ap, h2⟩ ⟨rfl, rfl, rfl⟩ ?_ ?_ ?_
      · exact a2.trans ((phv_103 a4).mpr q)
      · exact hns 0 (by omega)
      · exact hns 2 (by omega)
