/-! rollBack, the call. -/
theorem up_id {f : Nat → Nat} {d : Nat} (h : f d = 0) : va_up f d 0 = f := by
  funext x
  rw [up_if]
  by_cases z : x = d
  · rw [if_pos z, z, h]
  · rw [if_neg z]
theorem r_small {r X : Nat} (h : rOK r) (h1 : ¬ 3 * X ≤ r) (h2 : X ≤ 3994) : 2 * r ≤ 13824 := by
  unfold rOK at h
  omega
theorem r_big {r P X : Nat} (h : rOK r) (h1 : 3 * P ≤ r) (h2 : X ≤ P + 68) : 3 * X ≤ 2 * r := by
  unfold rOK at h
  omega
-- k rows
theorem k_rollBack {t np nc nd no : Nat} {sn : Nat → Nat} {K : KS} {G : Int32 → KS → Prop} {p1 p2 p3 : Int32} (ht : t < 512) (hI : V36 t np nc nd no sn K) (hf : ∀ v : Int32, v < 0 → G v K) (hK : ∀ v K' d s, d < nd → p1 = nI d → s < sn d → p2 = nI s → 0 ≤ v → V36 (t+1) np nc nd no (va_up sn d (s + 1)) K' → K' 0 2 0 = K 0 2 0 → (∀ B : Nat, B < 2 ^ 30 → BD np B K → BD np (B + 60000) K') → K' 6 2 d = 103 → K' 7 1 (2 * d) = NS K' d s 0 → K' 7 1 (2 * d + 1) = NS K' d s 1 → K' 6 4 d = NS K' d s 2 → K' 6 7 d = NS K' d s 20 → G v K') : wpL_c21 G 2 14000 K p1 p2 p3 := by
  obtain ⟨ns, P, r, cn, dp, ew, go, bl, sl, sk, M, ap, h⟩ := hI
  have ns3 := rx_ns3 h
  have no4 := rx_no4 h
  have o2 := rx_o2 h
  have o8 := rx_o8 h
  have nd1 := rx_nd1 h
  have nd2 := rx_nd2 h
  have nd3 := rx_nd3 h
  have nd4 := rx_nd4 h
  have lc1 := rx_lc1 h
  have l1 := rx_l1 h
  have d1 := rx_d1 h
  have d2 := rx_d2 h
  have n0 := rx_n0 h
  have n1 := rx_n1 h
  have n2 := rx_n2 h
  have g4 := rx_g4 h
  have g5 := rx_g5 h
  have np3 := rx_np3 h
  have hD : nD K = nd := nD_of nd2 (by omega)
  have h0 := rr_code 0 h
  have n1' : ∀ d, d < 8 → M 16 26 d = nI (sn d) ∧ sn d ≤ 6 := fun d hd => ⟨(n1 d hd).1, (n1 d hd).2.1⟩
  unfold wpL_c21 wpX6_rollBack
  refine ⟨1, 6, by omega, by omega, at_duel nd1 nd2 lc1 nd4 l1 (fun d hd e => ?_) (fun _ => ⟨by omega, by omega, xI (hf _ (by decide))⟩)⟩
  subst e
  obtain ⟨a1, a2, a3, a4, a5⟩ := d2 d hd
  have b2 := (n1' d (by omega)).2
  have hdp : d < nD K := by omega
  rw [n0 d hd]
  refine ⟨fun q => ⟨by omega, by omega, xI (hf _ (by decide))⟩, fun q => ⟨hdp, fun q2 => ?_, fun q2 => ⟨by omega, by omega, xI (hf _ (by decide))⟩⟩⟩
  · obtain ⟨s, hs3, rfl⟩ := nI_inN (n := sn d) (by omega) (Int32.not_lt.mp q) q2
    -- what is owed behind the first phase
    have ph2 : ∀ (P1 r1 : Nat) (ew1 : Nat → Nat) (v : Int32) (K1 M1 : KS) (ap1 : Int64) (uc1 us1 mc1 ms1 : Nat), RR (t + 1) (t + 1) np nc nd no ns P1 r1 cn sn dp ew1 ew go bl sl sk K1 M1 ap1 → ew1 d = 0 → go d = 1 → va_up ew d 0 = ew1 → 0 ≤ v → K1 0 2 0 = K 0 2 0 → (∀ B : Nat, B < 2 ^ 30 → BD np B K → BD np (B + 60000) K1) → wX6_rollBack_139 (fun v K => G v K) (PX G) mc1 ms1 uc1 us1 (nI s) d v K1 := by
      intro P1 r1 ew1 v K1 M1 ap1 uc1 us1 mc1 ms1 h1 hw1 hgo hew hv h02 hbd
      refine cl_r139 (nd := nd) (sn := sn) (bl := bl) (m := M1 16 27) (nD_of (rx_nd2 h1) (by omega)) hd nd4 (rx_n0 h1 d hd) hs3 (fun e he => (n1' e he).2) (rx_n2 h1) (fun ks f hks hf2 => ?_)
      obtain ⟨gx, gy, hg⟩ := gR_ex M1 d s
      obtain ⟨dq, h2⟩ := rr_resume h1 hd hw1 hgo hs3 hks hf2 hg
      rw [hew] at h2
      have hns : ∀ i, i < 24 → NS (rS (kr (k3 (kr K1 10 3 ks) 6 8 d (nI (s + 1))) 10 1 f) d s) d s i = f i := fun i hi => by
        have e2 := ns_val h2 hd (s := s) (by rw [va_up_s]; omega) hi
        exact e2.trans (hf2 i hi).symm
      refine hK v _ d s hd rfl hs3 rfl hv ⟨ns, P1, r1, cn, _, ew1, go, bl, sl, sk, _, ap1, h2⟩ h02 hbd ?_ ?_ ?_ ?_ ?_
      · show va_up (K1 6 2) d 103 d = 103
        exact va_up_s _ _ _
      · rw [rS_life, if_neg (by omega), if_pos rfl, hns 0 (by omega)]
        rfl
      · rw [rS_life, if_pos rfl, hns 1 (by omega)]
        rfl
      · rw [hns 2 (by omega)]
        show va_up (K1 6 4) d (f 2) d = f 2
        exact va_up_s _ _ _
      · rw [hns 20 (by omega)]
        show va_up (K1 6 7) d (f 20) d = f 20
        exact va_up_s _ _ _
    have ph : K 6 2 d = 103 ∨ K 6 2 d = 101 → wX6_rollBack_58 (fun v K => G v K) (PX G) 2 14000 (0 + 1) (0 + 6) (nI d) (nI s) d K := by
      intro hst
      unfold wX6_rollBack_58
      refine ⟨hdp, ?_⟩
      unfold wpX6_isBusy
      refine ⟨nd + 1, cl_busy nd1 hD lc1 nd4 l1 hd (fun e he n b => ⟨fun _ => ⟨by omega, by omega, xS (hf _ (by decide))⟩, fun q => absurd q (by decide)⟩) (fun z1 => ⟨fun q => absurd rfl q, fun _ => ?_⟩) nd 0 (by omega) (fun e he => absurd he (Nat.not_lt_zero e))⟩
      refine ⟨nd + 1, cl_busy nd1 hD lc1 nd4 l1 hd (fun e he n b => ⟨fun q => absurd q (by decide), fun _ => ⟨by omega, by omega, xS (hf _ (by decide))⟩⟩) (fun z2 => ⟨fun _ => ⟨fun w => ?_, fun w => ?_⟩, fun q => absurd rfl q⟩) nd 0 (by omega) (fun e he => absurd he (Nat.not_lt_zero e))⟩
      · have w103 : K 6 2 d = 103 := hst.resolve_right w
        have w2 := (phv_103 a4).mp (by rw [← a2]; exact w103)
        exact ph2 P r ew 0 K (k3 M 3 0 0 0) ap _ _ _ _ (rr_up (Nat.le_succ t) (Nat.le_succ t) h0) w2.1 w2.2 (up_id w2.1) (by decide) rfl (fun B hB hb => bd_up (by omega) hb)
      · have w2 : ew d = 1 := by
          have v := a2.symm.trans w
          unfold phv at v
          by_cases y : ew d = 0
          · rw [if_pos y] at v
            by_cases y2 : go d = 0
            · rw [if_pos y2] at v
              exact absurd v (by decide)
            · rw [if_neg y2] at v
              exact absurd v (by decide)
          · rw [if_neg y] at v
            by_cases y2 : ew d = 1
            · exact y2
            · rw [if_neg y2] at v
              exact absurd v (by decide)
        have hgo := a5 (by omega)
        have hrv : ∀ j, j < ns → rv sl ns j < no := fun j hj => by
          unfold rv
          exact (o8 _ (by omega)).2.1
        obtain ⟨_, _, _, f4, f5⟩ := un_facts h hd w2 (by omega)
        have hX94 : (xF cn sk d (K 7 0 (2 * d)) (K 7 0 (2 * d + 1)) (uX K d (rv sl ns) (P, K 11 0, K 4 2) ns)).1 ≤ 3994 := by
          refine rr_Pn h (e2 := t + 1) ?_ ?_ (by omega)
          · have g8 := rx_g8 h
            have d7 := rx_d7 h
            obtain ⟨s2, s3, s4⟩ := f4
            have := (d7 s2 (by omega)).2.2.1
            omega
          · have g9 := rx_g9 h
            have d7 := rx_d7 h
            obtain ⟨s2, s3, s4⟩ := f4
            have := (d7 s2 (by omega)).2.2.1
            rcases g9 with z | z
            · exact Or.inl z
            · rcases (by omega : cn s2 = 8 ∨ cn s2 ≤ 7) with v | v
              · exact Or.inl ⟨s2, by omega, v⟩
              · exact Or.inr (by omega)
        refine cl_ph1 h hd w2 (by omega) (by omega) ?_ (by omega) (by omega) (fun r2 y uc1 us1 v1 v2 v3 => ?_)
        · by_cases c : 3 * (xF cn sk d (K 7 0 (2 * d)) (K 7 0 (2 * d + 1)) (uX K d (rv sl ns) (P, K 11 0, K 4 2) ns)).1 ≤ r
          · exact Or.inl c
          · have := r_small g4 c hX94
            exact Or.inr ⟨by omega, by omega, r_big g4 g5 f5⟩
        · have huN := uN_le K d (rv sl ns) ns
          exact ph2 _ r2 (va_up ew d 0) _ _ _ _ _ _ _ _ (rr_undo h0 ht hd w2 rfl rfl rfl rfl rfl v1 v2 v3) (va_up_s _ _ _) hgo rfl (nI_pos' (by omega)) rfl (fun B hB hb => bd_undo (by omega) (fun j hj => (o2 _ (hrv j hj)).2) B hB hb)
    exact ⟨fun w => ph (Or.inl w), fun w => ⟨fun w2 => ph (Or.inr w2), fun w2 => ⟨by omega, by omega, xU (hf _ (by decide))⟩⟩⟩
