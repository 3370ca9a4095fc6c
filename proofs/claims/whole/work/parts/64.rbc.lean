/-! rollBack, the call. -/
theorem up_id {f : Nat → Nat} {d : Nat} (h : f d = 0) : va_up f d 0 = f := by
  funext x
  rw [up_if]
  by_cases z : x = d
  · rw [if_pos z, z, h]
  · rw [if_neg z]
theorem r_small {r X : Nat} (h : rOK r) (h1 : ¬ 3 * X ≤ r) (h2 : X ≤ 3994) : 2 * r ≤ 13824 := by
  unfold rOK at h
  omega
theorem r_big {r P X : Nat} (h : rOK r) (h1 : 3 * P ≤ r) (h2 : X ≤ P + 68) : 3 * X ≤ 2 * r := by
  unfold rOK at h
  omega
theorem c_rollBack {t uc us : Nat} {K M : KS} {ap o : Int64} {od : UInt64} {p1 p2 : Int32} (ht : t < 512) (hI : InvC t uc us K M ap) : st_rollBack (InvC (t + 1)) uc us K M ap o od p1 p2 := by
  obtain ⟨_, hu, hs, np, nc, nd, no, ns, P, r, cn, sn, dp, ew, go, bl, sl, sk, h⟩ := hI
  have nd1 := rx_nd1 h
  have nd2 := rx_nd2 h
  have nd3 := rx_nd3 h
  have nd4 := rx_nd4 h
  have lc1 := rx_lc1 h
  have l1 := rx_l1 h
  have d1 := rx_d1 h
  have d2 := rx_d2 h
  have n0 := rx_n0 h
  have n1 := rx_n1 h
  have n2 := rx_n2 h
  have g4 := rx_g4 h
  have g5 := rx_g5 h
  have np3 := rx_np3 h
  have hD : nD K = nd := nD_of nd2 (by omega)
  have h0 := rr_code 0 h
  have fin : ∀ (v : Int32), v ≠ 0 → wpX7_fails (fun r22 M23 ap24 => wpX7_thrown (fun r1 => r1 = v ∧ (v = 0 → o = r22.toInt64) ∧ InvC (t + 1) (uc + 2) (us + 14000) K M23 ap24) M23 ap24) (k3 M 3 0 0 0) ap v := by
    intro v hv
    unfold wpX7_fails wpX7_thrown
    exact ⟨rfl, fun q => absurd q hv, inv_rd2 0 v ht hu hs (by omega) (by omega) h⟩
  have eM : ∀ e, e < nd → K 7 0 (2 * e) = M 16 14 e ∧ K 7 0 (2 * e + 1) = M 16 15 e ∧ K 6 2 e = M 13 16 e := fun e he => ⟨(d1 e he).1, (d1 e he).2.1, (d2 e he).1⟩
  have n1' : ∀ d, d < 8 → M 16 26 d = nI (sn d) ∧ sn d ≤ 6 := fun d hd => ⟨(n1 d hd).1, (n1 d hd).2.1⟩
  have bad1 : (∀ d s, d < nd → s < sn d → p1 = nI d → ¬ p2 = nI s) → wpX7_rollBack (fun r22 M23 ap24 => wpX7_thrown (fun r1 => r1 = 1 ∧ ((1 : Int32) = 0 → o = r22.toInt64) ∧ InvC (t + 1) (uc + 2) (us + 14000) K M23 ap24) M23 ap24) M ap p1 p2 := by
    intro z
    unfold wpX7_rollBack
    refine ms_snap (M := k3 M 3 0 0 0) (n := nd) (sn := sn) nd3 nd4 (fun e he => (n1 e he).1) (fun e he => (n1 e he).2.1) (fun d2 s2 hd2 hs2 z1 z2 => absurd z2 (z d2 s2 hd2 hs2 z1)) (fun _ => ⟨fun q => absurd rfl q, fun _ => fin 1 (by decide)⟩)
  unfold st_rollBack wpL_rollBack wpX6_rollBack
  refine ⟨2, 14000, by omega, by omega, 1, 6, by omega, by omega, at_duel nd1 nd2 lc1 nd4 l1 (fun d hd e => ?_) (fun z => ⟨by omega, by omega, Or.inl ⟨rfl, bad1 (fun d s hd hs e _ => z (by rw [e]; exact in_nI hd (by omega)))⟩⟩)⟩
  subst e
  obtain ⟨a1, a2, a3, a4, a5⟩ := d2 d hd
  have b2 := (n1' d (by omega)).2
  have hdp : d < nD K := by omega
  rw [n0 d hd]
  refine ⟨fun q => ⟨by omega, by omega, Or.inl ⟨rfl, bad1 (fun d2 s hd2 hs2 e1 e2 => ?_)⟩⟩, fun q => ⟨hdp, fun q2 => ?_, fun q2 => ⟨by omega, by omega, Or.inl ⟨rfl, bad1 (fun d2 s hd2 hs2 e1 e2 => ?_)⟩⟩⟩⟩
  · have := (n1' d2 (by omega)).2
    rw [e2] at q
    exact absurd q (nI_pos (by omega))
  · obtain ⟨s, hs3, rfl⟩ := nI_inN (n := sn d) (by omega) (Int32.not_lt.mp q) q2
    -- what is owed behind the first phase
    have ph2 : ∀ (P1 r1 : Nat) (ew1 : Nat → Nat) (v : Int32) (K1 M1 : KS) (ap1 : Int64) (uc1 us1 mc1 ms1 : Nat), RR (t + 1) (t + 1) np nc nd no ns P1 r1 cn sn dp ew1 ew go bl sl sk K1 M1 ap1 → ew1 d = 0 → go d = 1 → va_up ew d 0 = ew1 → M1 3 0 0 = 0 → (∀ post, wX7_rollBack_106 post (nI d) (nI s) v M1 ap1 → wpX7_rollBack post M ap (nI d) (nI s)) → wX6_rollBack_139 (fun v K => wpX7_rollBack (fun b1 M1 ap1 => wpX7_thrown (fun r1 => r1 = 0 ∧ ((0 : Int32) = 0 → v.toInt64 = b1.toInt64) ∧ InvC (t + 1) (uc + 2) (us + 14000) K M1 ap1) M1 ap1) M ap (nI d) (nI s)) (fun E K => (E = "java/lang/IndexOutOfBoundsException" ∧ wpX7_rollBack (fun b1 M1 ap1 => wpX7_thrown (fun r1 => r1 = 1 ∧ ((1 : Int32) = 0 → o = b1.toInt64) ∧ InvC (t + 1) (uc + 2) (us + 14000) K M1 ap1) M1 ap1) M ap (nI d) (nI s)) ∨ (E = "java/lang/UnsupportedOperationException" ∧ wpX7_rollBack (fun b1 M1 ap1 => wpX7_thrown (fun r1 => r1 = 2 ∧ ((2 : Int32) = 0 → o = b1.toInt64) ∧ InvC (t + 1) (uc + 2) (us + 14000) K M1 ap1) M1 ap1) M ap (nI d) (nI s)) ∨ (E = "java/lang/IllegalStateException" ∧ wpX7_rollBack (fun b1 M1 ap1 => wpX7_thrown (fun r1 => r1 = 3 ∧ ((3 : Int32) = 0 → o = b1.toInt64) ∧ InvC (t + 1) (uc + 2) (us + 14000) K M1 ap1) M1 ap1) M ap (nI d) (nI s))) mc1 ms1 uc1 us1 (nI s) d v K1 := by
      intro P1 r1 ew1 v K1 M1 ap1 uc1 us1 mc1 ms1 h1 hw1 hgo hew hz href
      refine cl_r139 (nd := nd) (sn := sn) (bl := bl) (m := M1 16 27) (nD_of (rx_nd2 h1) (by omega)) hd nd4 (rx_n0 h1 d hd) hs3 (fun e he => (n1' e he).2) (rx_n2 h1) (fun ks f hks hf => href _ (ml_r106 (by omega) (by omega) (fun g g2 hg => ?_)))
      obtain ⟨dq, h2⟩ := rr_resume h1 hd hw1 hgo hs3 hks hf hg
      rw [hew] at h2
      unfold wpX7_thrown
      exact ⟨hz, fun _ => rfl, inv_mk ht hu hs (by omega) (by omega) h2⟩
    have ph : K 6 2 d = 103 ∨ K 6 2 d = 101 → wX6_rollBack_58 (fun v K => wpX7_rollBack (fun b1 M1 ap1 => wpX7_thrown (fun r1 => r1 = 0 ∧ ((0 : Int32) = 0 → v.toInt64 = b1.toInt64) ∧ InvC (t + 1) (uc + 2) (us + 14000) K M1 ap1) M1 ap1) M ap (nI d) (nI s)) (fun E K => (E = "java/lang/IndexOutOfBoundsException" ∧ wpX7_rollBack (fun b1 M1 ap1 => wpX7_thrown (fun r1 => r1 = 1 ∧ ((1 : Int32) = 0 → o = b1.toInt64) ∧ InvC (t + 1) (uc + 2) (us + 14000) K M1 ap1) M1 ap1) M ap (nI d) (nI s)) ∨ (E = "java/lang/UnsupportedOperationException" ∧ wpX7_rollBack (fun b1 M1 ap1 => wpX7_thrown (fun r1 => r1 = 2 ∧ ((2 : Int32) = 0 → o = b1.toInt64) ∧ InvC (t + 1) (uc + 2) (us + 14000) K M1 ap1) M1 ap1) M ap (nI d) (nI s)) ∨ (E = "java/lang/IllegalStateException" ∧ wpX7_rollBack (fun b1 M1 ap1 => wpX7_thrown (fun r1 => r1 = 3 ∧ ((3 : Int32) = 0 → o = b1.toInt64) ∧ InvC (t + 1) (uc + 2) (us + 14000) K M1 ap1) M1 ap1) M ap (nI d) (nI s))) 2 14000 (0 + 1) (0 + 6) (nI d) (nI s) d K := by
      intro hst
      have h111 : ¬ K 6 2 d = 111 := by rcases hst with w | w <;> rw [w] <;> decide
      have h102 : ¬ K 6 2 d = 102 := by rcases hst with w | w <;> rw [w] <;> decide
      have bad3 : ((∃ e, e < nd ∧ e ≠ d ∧ bzd K (K 7 0 (2 * d)) e) ∨ (∃ e, e < nd ∧ e ≠ d ∧ bzd K (K 7 0 (2 * d + 1)) e)) → wpX7_rollBack (fun b1 M1 ap1 => wpX7_thrown (fun r1 => r1 = 3 ∧ ((3 : Int32) = 0 → o = b1.toInt64) ∧ InvC (t + 1) (uc + 2) (us + 14000) K M1 ap1) M1 ap1) M ap (nI d) (nI s) := by
        intro w
        have nb : ¬ ((∀ e, e < nd → e ≠ d → ¬ bzd K (K 7 0 (2 * d)) e) ∧ (∀ e, e < nd → e ≠ d → ¬ bzd K (K 7 0 (2 * d + 1)) e)) := fun v => by
          rcases w with ⟨e, e1, e2, e3⟩ | ⟨e, e1, e2, e3⟩
          · exact v.1 e e1 e2 e3
          · exact v.2 e e1 e2 e3
        exact ml_rb nd3 nd4 n1' hd hs3 eM (fun v => v.elim (fun x => absurd x h111) (fun x => absurd x h102)) (fun _ _ _ => fin 3 (by decide)) (fun _ _ x y _ => absurd ⟨x, y⟩ nb) (fun x y _ => absurd ⟨x, y⟩ nb)
      unfold wX6_rollBack_58
      refine ⟨hdp, ?_⟩
      unfold wpX6_isBusy
      refine ⟨nd + 1, cl_busy nd1 hD lc1 nd4 l1 hd (fun e he n b => ⟨fun _ => ⟨by omega, by omega, Or.inr (Or.inr ⟨rfl, bad3 (Or.inl ⟨e, he, n, b⟩)⟩)⟩, fun q => absurd q (by decide)⟩) (fun z1 => ⟨fun q => absurd rfl q, fun _ => ?_⟩) nd 0 (by omega) (fun e he => absurd he (Nat.not_lt_zero e))⟩
      refine ⟨nd + 1, cl_busy nd1 hD lc1 nd4 l1 hd (fun e he n b => ⟨fun q => absurd q (by decide), fun _ => ⟨by omega, by omega, Or.inr (Or.inr ⟨rfl, bad3 (Or.inr ⟨e, he, n, b⟩)⟩)⟩⟩) (fun z2 => ⟨fun _ => ⟨fun w => ?_, fun w => ?_⟩, fun q => absurd rfl q⟩) nd 0 (by omega) (fun e he => absurd he (Nat.not_lt_zero e))⟩
      · have w103 : K 6 2 d = 103 := hst.resolve_right w
        have w2 := (phv_103 a4).mp (by rw [← a2]; exact w103)
        exact ph2 P r ew 0 K (k3 M 3 0 0 0) ap _ _ _ _ (rr_up (Nat.le_succ t) (Nat.le_succ t) h0) w2.1 w2.2 (up_id w2.1) rfl (fun post hh => ml_rb nd3 nd4 n1' hd hs3 eM (fun v => v.elim (fun x => absurd x h111) (fun x => absurd x h102)) (fun _ _ x => by
          rcases x with ⟨e, e1, e2, e3⟩ | ⟨e, e1, e2, e3⟩
          · exact absurd e3 (z1 e e1 e2)
          · exact absurd e3 (z2 e e1 e2)) (fun _ _ _ _ _ => hh) (fun _ _ x => absurd x w))
      · have w2 : ew d = 1 := by
          have v := a2.symm.trans w
          unfold phv at v
          by_cases y : ew d = 0
          · rw [if_pos y] at v
            by_cases y2 : go d = 0
            · rw [if_pos y2] at v
              exact absurd v (by decide)
            · rw [if_neg y2] at v
              exact absurd v (by decide)
          · rw [if_neg y] at v
            by_cases y2 : ew d = 1
            · exact y2
            · rw [if_neg y2] at v
              exact absurd v (by decide)
        have hgo := a5 (by omega)
        obtain ⟨_, _, _, f4, f5⟩ := un_facts h hd w2 (by omega)
        have hX94 : (xF cn sk d (K 7 0 (2 * d)) (K 7 0 (2 * d + 1)) (uX K d (rv sl ns) (P, K 11 0, K 4 2) ns)).1 ≤ 3994 := by
          refine rr_Pn h (e2 := t + 1) ?_ ?_ (by omega)
          · have g8 := rx_g8 h
            have d7 := rx_d7 h
            obtain ⟨s2, s3, s4⟩ := f4
            have := (d7 s2 (by omega)).2.2.1
            omega
          · have g9 := rx_g9 h
            have d7 := rx_d7 h
            obtain ⟨s2, s3, s4⟩ := f4
            have := (d7 s2 (by omega)).2.2.1
            rcases g9 with z | z
            · exact Or.inl z
            · rcases (by omega : cn s2 = 8 ∨ cn s2 ≤ 7) with v | v
              · exact Or.inl ⟨s2, by omega, v⟩
              · exact Or.inr (by omega)
        refine cl_ph1 h hd w2 (by omega) (by omega) ?_ (by omega) (by omega) (fun r2 y uc1 us1 v1 v2 v3 => ?_)
        · by_cases c : 3 * (xF cn sk d (K 7 0 (2 * d)) (K 7 0 (2 * d + 1)) (uX K d (rv sl ns) (P, K 11 0, K 4 2) ns)).1 ≤ r
          · exact Or.inl c
          · have := r_small g4 c hX94
            exact Or.inr ⟨by omega, by omega, r_big g4 g5 f5⟩
        · refine ph2 _ r2 (va_up ew d 0) _ _ _ _ _ _ _ _ (rr_undo h0 ht hd w2 rfl rfl rfl rfl rfl v1 v2 v3) (va_up_s _ _ _) hgo rfl rfl (fun post hh => ml_rb nd3 nd4 n1' hd hs3 eM (fun v => v.elim (fun x => absurd x h111) (fun x => absurd x h102)) (fun _ _ x => ?_) (fun _ _ _ _ x => absurd w x) (fun _ _ _ => ?_))
          · rcases x with ⟨e, e1, e2, e3⟩ | ⟨e, e1, e2, e3⟩
            · exact absurd e3 (z1 e e1 e2)
            · exact absurd e3 (z2 e e1 e2)
          · exact ml_ph1 (post := fun r36 M39 ap40 => wX7_rollBack_106 post (nI d) (nI s) r36 M39 ap40) h0 (by omega) hd w2 (by omega) (by omega) hh
    refine ⟨fun w => ph (Or.inl w), fun w => ⟨fun w2 => ph (Or.inr w2), fun w2 => ⟨by omega, by omega, Or.inr (Or.inl ⟨rfl, ?_⟩)⟩⟩⟩
    refine ml_rb nd3 nd4 n1' hd hs3 eM (fun _ => fin 2 (by decide)) (fun x y _ => ?_) (fun x y _ _ _ => ?_) (fun _ _ x => absurd x w2)
    all_goals
      exfalso
      rw [a2] at w w2 x y
      unfold phv at w w2 x y
      by_cases v : ew d = 0
      · rw [if_pos v] at w x
        by_cases v2 : go d = 0
        · rw [if_pos v2] at x
          exact x rfl
        · rw [if_neg v2] at w
          exact w rfl
      · rw [if_neg v] at w2 y
        by_cases v2 : ew d = 1
        · rw [if_pos v2] at w2
          exact w2 rfl
        · rw [if_neg v2] at y
          exact y rfl
  · have hse : d2 = d := (nI_eq (by omega) (by omega)).mp e1.symm
    rw [hse] at hs2
    rw [e2] at q2
    exact q2 (nI_lt hs2 (by omega))
