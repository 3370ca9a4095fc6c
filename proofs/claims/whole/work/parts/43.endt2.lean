/-! endTurn, the call -/
theorem kSt_id {K : KS} {d : Nat} {a x y : Int32} (h1 : K 6 7 d = a) (h2 : K 7 1 (2 * d) = x) (h3 : K 7 1 (2 * d + 1) = y) : kSt K d a x y = K := by
  unfold kSt
  rw [← h1, k3_id, ← h2, k3_id, ← h3, k3_id]
theorem mSt_id {M : KS} {d : Nat} {a x y : Int32} (h1 : M 16 24 d = a) (h2 : M 16 18 (2 * d) = x) (h3 : M 16 18 (2 * d + 1) = y) : mSt M d a x y = M := by
  unfold mSt
  rw [← h1, k3_id, ← h2, k3_id, ← h3, k3_id]
/-- who wins by lives -/
def wLi (K : KS) (d : Nat) (x y : Int32) : Int32 := if x ≤ y then (if y ≤ x then -1 else K 7 0 (2 * d + 1)) else K 7 0 (2 * d)
theorem wLi3 (K : KS) (d : Nat) (x y : Int32) : wLi K d x y = -1 ∨ wLi K d x y = K 7 0 (2 * d) ∨ wLi K d x y = K 7 0 (2 * d + 1) := by
  unfold wLi
  by_cases q : x ≤ y
  · rw [if_pos q]
    by_cases q2 : y ≤ x
    · rw [if_pos q2]
      exact Or.inl rfl
    · rw [if_neg q2]
      exact Or.inr (Or.inr rfl)
  · rw [if_neg q]
    exact Or.inr (Or.inl rfl)
theorem m_ends {post : Unit → KS → Int64 → Prop} {K M : KS} {ap : Int64} {d : Nat} {x y : Int32} (hd : d < 8) (h18 : M 16 18 (2 * d) = x) (h19 : M 16 18 (2 * d + 1) = y) (h14 : M 16 14 d = K 7 0 (2 * d)) (h15 : M 16 15 d = K 7 0 (2 * d + 1)) (hp : wX7_ends_49 post (nI d) (wLi K d x y) M ap) : wpX7_ends post M ap (nI d) := by
  have i0 : (2 : Int32) * nI d = nI (2 * d) := nI_mul 2 d
  have i1 : (2 : Int32) * nI d + 1 = nI (2 * d + 1) := ix2 d 1
  unfold wpX7_ends
  rw [i1, i0, nI_clamp (n := 2 * d) (by omega), nI_clamp (n := 2 * d + 1) (by omega), nI_clamp (n := d) (by omega), h18, h19, h14, h15]
  refine ⟨vp_in_nI (by omega) (by omega), ?_⟩
  intro x2 e2
  subst e2
  refine ⟨vp_in_nI (by omega) (by omega), ?_⟩
  intro x4 e4
  subst e4
  unfold wLi at hp
  refine ⟨fun q => ⟨fun q2 => ?_, fun q2 => ⟨vp_in_nI hd (by omega), ?_⟩⟩, fun q => ⟨vp_in_nI hd (by omega), ?_⟩⟩
  · rw [if_pos q, if_pos q2] at hp
    exact hp
  · rw [if_pos q, if_neg q2] at hp
    exact hp
  · rw [if_neg q] at hp
    exact hp
theorem life_0lt {x : Int32} (h : lifeOK x) : ¬ x ≤ 0 := by
  obtain ⟨a, h1, h2, rfl⟩ := h
  exact nI_nle (by omega) (by omega)
theorem c_endTurn {t uc us : Nat} {K M : KS} {ap o : Int64} {od : UInt64} {p1 : Int32} (ht : t < 512) (hI : InvC t uc us K M ap) : st_endTurn (InvC (t + 1)) uc us K M ap o od p1 := by
  obtain ⟨_, hu, hs, np, nc, nd, no, ns, P, r, cn, sn, dp, ew, go, bl, sl, sk, h⟩ := hI
  have nd1 := rx_nd1 h
  have nd2 := rx_nd2 h
  have nd3 := rx_nd3 h
  have nd4 := rx_nd4 h
  have nc4 := rx_nc4 h
  have lc1 := rx_lc1 h
  have l1 := rx_l1 h
  have g2 := rx_g2 h
  have d1 := rx_d1 h
  have d2 := rx_d2 h
  have d3 := rx_d3 h
  have d5 := rx_d5 h
  have d6 := rx_d6 h
  have d7 := rx_d7 h
  have d8 := rx_d8 h
  have d9 := rx_d9 h
  have d10 := rx_d10 h
  have d11 := rx_d11 h
  have hD : nD K = nd := nD_of nd2 (by omega)
  unfold st_endTurn wpL_endTurn wpX6_endTurn
  refine ⟨10, 14000, by omega, by omega, 1, 6, by omega, by omega, at_duel nd1 nd2 lc1 nd4 l1 (fun d hd e => ?_) (fun z => ⟨by omega, by omega, Or.inl ⟨rfl, ?_⟩⟩)⟩
  · subst e
    obtain ⟨a1, a2, a3, a4, a5⟩ := d2 d hd
    have hdp : d < nD K := by omega
    have e16 : (k3 M 3 0 0 0) 13 16 d = phv (ew d) (go d) := a1.symm.trans a2
    rw [a2, phv_103 a4]
    refine ⟨hdp, fun q => ?_, fun q => ⟨by omega, by omega, Or.inr ⟨rfl, ?_⟩⟩⟩
    · obtain ⟨τ, t1, t2, t3, t4⟩ := d6 d hd q.1
      obtain ⟨⟨x, x1, x2, x3⟩, ⟨y, y1, y2, y3⟩, _⟩ := d5 d hd q.1
      obtain ⟨v1, v2, v3, v4⟩ := d10 d hd
      have hch : ∀ i, ∃ v, i < dp d → (K 17 d i = nI v ∧ enOK v) := fun i => by
        by_cases z : i < dp d
        · obtain ⟨a, b, c, b1, b2, b3, b4, b5⟩ := (d11 d hd i (by omega)).2 z
          exact ⟨_, fun _ => ⟨b5, a, b, c, b1, b2, b3, b4, rfl⟩⟩
        · exact ⟨0, fun w => absurd w z⟩
      obtain ⟨en, hen⟩ := Classical.skolem.mp hch
      have hok : ∀ i, i < dp d → enOK (en i) := fun i hi => (hen i hi).2
      have hmen : ∀ i, i < dp d → (k3 M 3 0 0 0) 16 25 (16 * d + i) = nI (en i) := fun i hi => (d11 d hd i (by omega)).1.symm.trans (hen i hi).1
      obtain ⟨R, hRs⟩ : ∃ R, R = stk en (dp d) 0 0 x y := ⟨_, rfl⟩
      have spec := stk_spec (en := en) (dp d) 0 0 x y hok (by omega) x1 x2 y1 y2
      rw [← hRs] at spec
      have key : ∀ post : Unit → KS → Prop, stH post K d R → wpX2_doStack post K d := fun post hH => by
        have c := cl_stack (post := post) hD hd v3 (fun i hi => (hen i hi).1) (dp d) (dp d) (Nat.le_refl _) (Nat.le_refl _) hok (dp d + 1) 0 x y (by omega) (by omega) x1 x2 y1 y2 (by rw [← hRs]; exact hH)
        rw [kSt_id v1 x3 y3] at c
        exact ⟨dp d + 1, c⟩
      have mkey : ∀ post : Int32 → KS → Int64 → Prop, ((R.1 = 0 → post 0 (mSt (k3 M 3 0 0 0) d 0 R.2.1 R.2.2) ap) ∧ (¬ R.1 = 0 → post 1 (mSt (k3 M 3 0 0 0) d 0 R.2.1 R.2.2) ap)) → wpX7_resolves post (k3 M 3 0 0 0) ap (nI d) := fun post hH => by
        have c := ml_stack (post := post) (M := k3 M 3 0 0 0) (ap := ap) (d := d) (by omega) v3 hmen (dp d) (dp d) (Nat.le_refl _) (Nat.le_refl _) hok (dp d + 1) 0 x y (by omega) (by omega) x1 x2 y1 y2 (by rw [← hRs]; exact hH)
        rw [mSt_id (M := k3 M 3 0 0 0) v2 ((d3 (2 * d) (by omega)).symm.trans x3) ((d3 (2 * d + 1) (by omega)).symm.trans y3)] at c
        exact ⟨dp d + 1, c⟩
      -- the reference, from its result on
      have mrun : ∀ post : Int32 → KS → Int64 → Prop, (¬ R.1 = 0 → wpX7_ends (fun _ M10 ap11 => (narrow .char (.int (M10 13 16 d)) = .int (M10 13 16 d)) ∧ post (M10 13 16 d) M10 ap11) (k3 (mSt (k3 M 3 0 0 0) d 0 R.2.1 R.2.2) 16 20 d (nI (τ + 1))) ap (nI d)) → (R.1 = 0 → (∀ s, (s = 2 * d ∨ s = 2 * d + 1) → ∀ i, i < cn s → ¬ K 18 s i = 0) → wpX7_ends (fun _ M10 ap11 => (narrow .char (.int (M10 13 16 d)) = .int (M10 13 16 d)) ∧ post (M10 13 16 d) M10 ap11) (k3 (mSt (k3 M 3 0 0 0) d 0 R.2.1 R.2.2) 16 20 d (nI (τ + 1))) ap (nI d)) → (R.1 = 0 → (∃ s, (s = 2 * d ∨ s = 2 * d + 1) ∧ ∃ i, i < cn s ∧ K 18 s i = 0) → post 103 (k3 (k3 (mSt (k3 M 3 0 0 0) d 0 R.2.1 R.2.2) 16 20 d (nI (τ + 1))) 16 19 d (if 1 + (τ + 1) / 2 < 6 then nI (1 + (τ + 1) / 2) else 6)) ap) → wpX7_endTurn post M ap (nI d) := by
        intro post w1 w2 w3
        have e20 : (mSt (k3 M 3 0 0 0) d 0 R.2.1 R.2.2) 16 20 d = nI τ := t3
        unfold wpX7_endTurn
        refine ms_duel (n := nd) nd3 nd4 (fun _ _ _ => ⟨fun _ => ⟨vp_in_nI (by omega) (by omega), ?_⟩, fun q => absurd q (by decide)⟩) (fun z => absurd (in_nI hd (by omega)) z)
        rw [nI_clamp (n := d) (by omega), e16, phv_103 a4]
        refine ⟨fun _ => mkey _ ⟨fun r0 => ⟨vp_in_nI (by omega) (by omega), fun z => absurd rfl z, fun _ => ?_⟩, fun r1 => ⟨vp_in_nI (by omega) (by omega), fun _ => ?_, fun z => absurd z (by decide)⟩⟩, fun z => absurd q z⟩
        · rw [e20, nI_1]
          refine ml_all (M := k3 (mSt (k3 M 3 0 0 0) d 0 R.2.1 R.2.2) 16 20 d (nI (τ + 1))) (cn := cn) (by omega) (fun e he => ⟨(d7 (2 * d + e) (by omega)).2.1, (d7 (2 * d + e) (by omega)).2.2.1⟩) (fun hall => ⟨fun z => absurd z (by decide), fun _ => w2 r0 (fun s hs i hi => ?_)⟩) (fun e he i hi h0 => ⟨fun _ => ?_, fun z => absurd rfl z⟩)
          · have h8 := (d7 s (by omega)).2.2.1
            rw [(d9 s (by omega) i (by omega)).2.1 hi]
            rcases hs with hs | hs
            · subst hs
              exact hall 0 (by omega) i hi
            · subst hs
              exact hall 1 (by omega) i hi
          · have h8 := (d7 (2 * d + e) (by omega)).2.2.1
            have w4 := w3 r0 ⟨2 * d + e, by omega, i, hi, ((d9 (2 * d + e) (by omega) i (by omega)).2.1 hi).trans h0⟩
            intro x15 hx
            have hx2 : x15 = nI (1 + (τ + 1) / 2) := by
              rw [hx, show (k3 (mSt (k3 M 3 0 0 0) d 0 R.2.1 R.2.2) 16 20 d (nI (τ + 1))) 16 20 d = nI (τ + 1) from k3_s _ _ _ _ _, show nI (τ + 1) / 2 = nI ((τ + 1) / 2) from pk_div (d := 2) (by omega) (by omega) (by omega)]
              exact nI_add 1 _
            subst hx2
            have e17 : ∀ z : Int32, (k3 (k3 (mSt (k3 M 3 0 0 0) d 0 R.2.1 R.2.2) 16 20 d (nI (τ + 1))) 16 19 d z) 13 16 d = 103 := fun z => e16.trans ((phv_103 a4).mpr q)
            rw [e17, e17]
            refine ⟨fun z => ⟨vp_in_nI (by omega) (by omega), rfl, ?_⟩, fun z => ⟨vp_in_nI (by omega) (by omega), rfl, ?_⟩⟩
            · have z2 : 1 + (τ + 1) / 2 ≤ 6 := (nI_leI (b := 6) (by omega) (by omega)).mp z
              by_cases u : 1 + (τ + 1) / 2 < 6
              · rw [if_pos u] at w4
                exact w4
              · rw [if_neg u] at w4
                rw [show 1 + (τ + 1) / 2 = 6 by omega]
                exact w4
            · have z2 : ¬ 1 + (τ + 1) / 2 ≤ 6 := fun u => z (nI_le (b := 6) u (by omega))
              rw [if_neg (by omega)] at w4
              exact w4
        · rw [e20, nI_1]
          exact w1 r1
      -- the end, on both sides
      have endC : ∀ u v : Int32, (¬ R.1 = 0 ∨ (∀ s, (s = 2 * d ∨ s = 2 * d + 1) → ∀ i, i < cn s → ¬ K 18 s i = 0)) → wX6_endTurn_42 (fun v K => (fun k K1 o1 od1 => wpX7_endTurn (fun b1 M1 ap1 => wpX7_thrown (fun r1 => r1 = k ∧ (k = 0 → o1 = b1.toInt64) ∧ InvC (t + 1) (uc + 10) (us + 14000) K1 M1 ap1) M1 ap1) M ap (nI d)) 0 K (v.toInt64) od) (fun E K => (E = "java/lang/IndexOutOfBoundsException" ∧ (fun k K1 o1 od1 => wpX7_endTurn (fun b1 M1 ap1 => wpX7_thrown (fun r1 => r1 = k ∧ (k = 0 → o1 = b1.toInt64) ∧ InvC (t + 1) (uc + 10) (us + 14000) K1 M1 ap1) M1 ap1) M ap (nI d)) 1 K o od) ∨ (E = "java/lang/UnsupportedOperationException" ∧ (fun k K1 o1 od1 => wpX7_endTurn (fun b1 M1 ap1 => wpX7_thrown (fun r1 => r1 = k ∧ (k = 0 → o1 = b1.toInt64) ∧ InvC (t + 1) (uc + 10) (us + 14000) K1 M1 ap1) M1 ap1) M ap (nI d)) 2 K o od)) 10 14000 (0 + 1) (0 + 6) d (k3 (k3 (k3 (k3 (kSt K d 0 R.2.1 R.2.2) 6 5 d u) 6 4 d v) 6 2 d 101) 6 3 d (wLi K d R.2.1 R.2.2)) := by
        intro u v hor
        have h1 := rr_endA (x := R.2.1) (y := R.2.2) (u := u) (v := v) h hd q.1 q.2 t3 t1 (wLi3 K d R.2.1 R.2.2)
        have hev1 : va_up ew d 1 d = 1 := va_up_s _ _ _
        have hwin : (k3 (k3 (k3 (k3 (kSt K d 0 R.2.1 R.2.2) 6 5 d u) 6 4 d v) 6 2 d 101) 6 3 d (wLi K d R.2.1 R.2.2)) 6 3 d = wLi K d R.2.1 R.2.2 := k3_s _ _ _ _ _
        refine cl_end42 h1 ht hd hev1 q.1 hwin (by omega) (by omega) (fun r2 yy s1 s2 s3 => ?_)
        have h2 := rr_award h1 hd hev1 q.1 hwin s1 s2 s3
        have hPm := rr_P h2 (by omega)
        have mfin : wpX7_ends (fun _ M10 ap11 => (narrow .char (.int (M10 13 16 d)) = .int (M10 13 16 d)) ∧ wpX7_thrown (fun r1 => r1 = 0 ∧ ((0 : Int32) = 0 → (101 : Int32).toInt64 = (M10 13 16 d).toInt64) ∧ InvC (t + 1) (uc + 10) (us + 14000) (kH (kr (k3 (k3 (k3 (k3 (kSt K d 0 R.2.1 R.2.2) 6 5 d u) 6 4 d v) 6 2 d 101) 6 3 d (wLi K d R.2.1 R.2.2)) 4 3 (stF (sk (2 * d + 1)) 119 0 (cn (2 * d + 1)) (stF (sk (2 * d)) 119 0 (cn (2 * d)) (K 4 3)))) r2 yy) M10 ap11) M10 ap11) (k3 (mSt (k3 M 3 0 0 0) d 0 R.2.1 R.2.2) 16 20 d (nI (τ + 1))) ap (nI d) := by
          refine m_ends (K := K) (x := R.2.1) (y := R.2.2) (by omega) (md_71 _ _ _ _ _) (md_72 _ _ _ _ _) (d1 d hd).1.symm (d1 d hd).2.1.symm ?_
          refine m_end49 (cn := cn) (sk := sk) (P := P) (by omega) g2 (fun e he => ⟨(d7 (2 * d + e) (by omega)).2.1, (d7 (2 * d + e) (by omega)).2.2.1⟩) (fun e he i hi => ⟨(d8 (2 * d + e) (by omega) i hi).2.1, by have := (d8 (2 * d + e) (by omega) i hi).2.2; omega⟩) ?_ ?_
          · have hx0 : hR nc (P, K 11 0, K 4 2) (P, M 16 12, M 16 7) := ⟨rfl, rx_g6 h, fun i hi => (rx_c2 h i hi).1⟩
            have hRR := hF_R (w := wLi K d R.2.1 R.2.2) (sk := sk (2 * d + 1)) (cn (2 * d + 1)) 0 _ _ (fun j hj => (d8 (2 * d + 1) (by omega) j (by omega)).2.2) (hF_R (w := wLi K d R.2.1 R.2.2) (sk := sk (2 * d)) (cn (2 * d)) 0 _ _ (fun j hj => (d8 (2 * d) (by omega) j (by omega)).2.2) hx0)
            have e1 := hRR.1
            have hPm2 : (hF (sk (2 * d + 1)) (wLi K d R.2.1 R.2.2) 0 (cn (2 * d + 1)) (hF (sk (2 * d)) (wLi K d R.2.1 R.2.2) 0 (cn (2 * d)) (P, K 11 0, K 4 2))).1 ≤ 3994 := hPm
            show (hF (sk (2 * d + 1)) (wLi K d R.2.1 R.2.2) 0 (cn (2 * d + 1)) (hF (sk (2 * d)) (wLi K d R.2.1 R.2.2) 0 (cn (2 * d)) (P, M 16 12, M 16 7))).1 < 4000
            omega
          · have e101 : (mH (kr (k3 (k3 (k3 (mSt (k3 M 3 0 0 0) d 0 R.2.1 R.2.2) 16 20 d (nI (τ + 1))) 16 17 d (wLi K d R.2.1 R.2.2)) 13 16 d 101) 13 8 (stF (sk (2 * d + 1)) 119 0 (cn (2 * d + 1)) (stF (sk (2 * d)) 119 0 (cn (2 * d)) (M 13 8)))) (hF (sk (2 * d + 1)) (wLi K d R.2.1 R.2.2) 0 (cn (2 * d + 1)) (hF (sk (2 * d)) (wLi K d R.2.1 R.2.2) 0 (cn (2 * d)) (P, M 16 12, M 16 7)))) 13 16 d = 101 := by
              show va_up (M 13 16) d 101 d = 101
              exact va_up_s _ _ _
            show (narrow .char (.int ((mH (kr (k3 (k3 (k3 (mSt (k3 M 3 0 0 0) d 0 R.2.1 R.2.2) 16 20 d (nI (τ + 1))) 16 17 d (wLi K d R.2.1 R.2.2)) 13 16 d 101) 13 8 (stF (sk (2 * d + 1)) 119 0 (cn (2 * d + 1)) (stF (sk (2 * d)) 119 0 (cn (2 * d)) (M 13 8)))) (hF (sk (2 * d + 1)) (wLi K d R.2.1 R.2.2) 0 (cn (2 * d + 1)) (hF (sk (2 * d)) (wLi K d R.2.1 R.2.2) 0 (cn (2 * d)) (P, M 16 12, M 16 7)))) 13 16 d)) = .int ((mH (kr (k3 (k3 (k3 (mSt (k3 M 3 0 0 0) d 0 R.2.1 R.2.2) 16 20 d (nI (τ + 1))) 16 17 d (wLi K d R.2.1 R.2.2)) 13 16 d 101) 13 8 (stF (sk (2 * d + 1)) 119 0 (cn (2 * d + 1)) (stF (sk (2 * d)) 119 0 (cn (2 * d)) (M 13 8)))) (hF (sk (2 * d + 1)) (wLi K d R.2.1 R.2.2) 0 (cn (2 * d + 1)) (hF (sk (2 * d)) (wLi K d R.2.1 R.2.2) 0 (cn (2 * d)) (P, M 16 12, M 16 7)))) 13 16 d)) ∧ _
            rw [e101]
            refine ⟨rfl, ?_⟩
            unfold wpX7_thrown
            exact ⟨rfl, fun _ => congrArg Int32.toInt64 (show (101 : Int32) = va_up (M 13 16) d 101 d from (va_up_s _ _ _).symm), inv_mk ht hu hs (by omega) (by omega) h2⟩
        refine mrun _ (fun _ => mfin) (fun _ _ => mfin) (fun r0 hz => ?_)
        rcases hor with z | z
        · exact absurd r0 z
        · obtain ⟨s, hs2, i, hi, h0⟩ := hz
          exact absurd h0 (z s hs2 i hi)
      have e62 : (kSt K d 0 R.2.1 R.2.2) 6 2 d = 103 := a2.trans ((phv_103 a4).mpr q)
      refine key _ ⟨fun r0 => ?_, fun r1 => ?_, fun r2 => ?_⟩
      · -- it goes on, or all is played
        obtain ⟨_, lx, ly⟩ : R.1 = 0 ∧ lifeOK R.2.1 ∧ lifeOK R.2.2 := by
          rcases spec with z | z | z
          · exact z
          · omega
          · omega
        refine ⟨hdp, fun z => absurd e62 z, fun _ => ?_⟩
        have e65 : (kSt K d 0 R.2.1 R.2.2) 6 5 d = nI τ := t2
        have hv : (if (1 : Int32) + nI (τ + 1) / 2 < 6 then 1 + nI (τ + 1) / 2 else 6) = (if 1 + (τ + 1) / 2 < 6 then nI (1 + (τ + 1) / 2) else 6) := by
          rw [show nI (τ + 1) / 2 = nI ((τ + 1) / 2) from pk_div (d := 2) (by omega) (by omega) (by omega), show (1 : Int32) + nI ((τ + 1) / 2) = nI (1 + (τ + 1) / 2) from nI_add 1 _]
          by_cases z : 1 + (τ + 1) / 2 < 6
          · rw [if_pos z, if_pos (show nI (1 + (τ + 1) / 2) < (6 : Int32) from nI_lt (b := 6) z (by omega))]
          · rw [if_neg z, if_neg (show ¬ nI (1 + (τ + 1) / 2) < (6 : Int32) from nI_nlt (b := 6) (by omega) (by omega))]
        unfold wpX2_passTurn
        rw [e65, nI_1, k3_s, hv]
        have on42 : ∀ {post : Int32 → KS → Prop} {px : String → KS → Prop} {v : Int32}, post 103 (k3 (k3 (kSt K d 0 R.2.1 R.2.2) 6 5 d (nI (τ + 1))) 6 4 d v) → wX6_endTurn_42 post px 10 14000 (0 + 1) (0 + 6) d (k3 (k3 (kSt K d 0 R.2.1 R.2.2) 6 5 d (nI (τ + 1))) 6 4 d v) := by
          intro post px v hp
          have e6 : (k3 (k3 (kSt K d 0 R.2.1 R.2.2) 6 5 d (nI (τ + 1))) 6 4 d v) 6 2 d = 103 := e62
          unfold wX6_endTurn_42
          rw [e6]
          exact ⟨hdp, fun _ => ⟨rfl, hp⟩, fun z => absurd z (by decide)⟩
        have goes : (∃ s, (s = 2 * d ∨ s = 2 * d + 1) ∧ ∃ i, i < cn s ∧ K 18 s i = 0) → wX6_endTurn_42 (fun v K => (fun k K1 o1 od1 => wpX7_endTurn (fun b1 M1 ap1 => wpX7_thrown (fun r1 => r1 = k ∧ (k = 0 → o1 = b1.toInt64) ∧ InvC (t + 1) (uc + 10) (us + 14000) K1 M1 ap1) M1 ap1) M ap (nI d)) 0 K (v.toInt64) od) (fun E K => (E = "java/lang/IndexOutOfBoundsException" ∧ (fun k K1 o1 od1 => wpX7_endTurn (fun b1 M1 ap1 => wpX7_thrown (fun r1 => r1 = k ∧ (k = 0 → o1 = b1.toInt64) ∧ InvC (t + 1) (uc + 10) (us + 14000) K1 M1 ap1) M1 ap1) M ap (nI d)) 1 K o od) ∨ (E = "java/lang/UnsupportedOperationException" ∧ (fun k K1 o1 od1 => wpX7_endTurn (fun b1 M1 ap1 => wpX7_thrown (fun r1 => r1 = k ∧ (k = 0 → o1 = b1.toInt64) ∧ InvC (t + 1) (uc + 10) (us + 14000) K1 M1 ap1) M1 ap1) M ap (nI d)) 2 K o od)) 10 14000 (0 + 1) (0 + 6) d (k3 (k3 (kSt K d 0 R.2.1 R.2.2) 6 5 d (nI (τ + 1))) 6 4 d (if 1 + (τ + 1) / 2 < 6 then nI (1 + (τ + 1) / 2) else 6)) := by
          intro hz
          refine on42 (mrun _ (fun z => absurd r0 z) (fun _ z => ?_) (fun _ _ => ?_))
          · obtain ⟨s, hs2, i, hi, h0⟩ := hz
            exact absurd h0 (z s hs2 i hi)
          · unfold wpX7_thrown
            exact ⟨rfl, fun _ => rfl, inv_mk ht hu hs (by omega) (by omega) (rr_pass h hd q.1 q.2 t1 lx ly)⟩
        refine ⟨hdp, ?_⟩
        unfold wpX5_hasPlayedAll
        refine ⟨cn (2 * d) + 1, cl_all (K := k3 (k3 (kSt K d 0 R.2.1 R.2.2) 6 5 d (nI (τ + 1))) 6 4 d (if 1 + (τ + 1) / 2 < 6 then nI (1 + (τ + 1) / 2) else 6)) hD (by omega) (d7 (2 * d) (by omega)).1 (d7 (2 * d) (by omega)).2.2.1 (fun p0 => ⟨fun z => absurd z (by decide), fun _ => ?_⟩) (fun i hi h0 => ⟨fun _ => goes ⟨2 * d, Or.inl rfl, i, hi, h0⟩, fun z => absurd rfl z⟩) (cn (2 * d)) 0 (by omega) (fun j hj => absurd hj (Nat.not_lt_zero j))⟩
        refine ⟨cn (2 * d + 1) + 1, cl_all (K := k3 (k3 (kSt K d 0 R.2.1 R.2.2) 6 5 d (nI (τ + 1))) 6 4 d (if 1 + (τ + 1) / 2 < 6 then nI (1 + (τ + 1) / 2) else 6)) hD (by omega) (d7 (2 * d + 1) (by omega)).1 (d7 (2 * d + 1) (by omega)).2.2.1 (fun p1_ => ⟨fun z => absurd z (by decide), fun _ => ?_⟩) (fun i hi h0 => ⟨fun _ => goes ⟨2 * d + 1, Or.inr rfl, i, hi, h0⟩, fun z => absurd rfl z⟩) (cn (2 * d + 1)) 0 (by omega) (fun j hj => absurd hj (Nat.not_lt_zero j))⟩
        have hall : ∀ s, (s = 2 * d ∨ s = 2 * d + 1) → ∀ i, i < cn s → ¬ K 18 s i = 0 := fun s hs2 i hi => by
          rcases hs2 with z | z
          · subst z
            exact p0 i hi
          · subst z
            exact p1_ i hi
        have fin42 := endC (nI (τ + 1)) (if 1 + (τ + 1) / 2 < 6 then nI (1 + (τ + 1) / 2) else 6) (Or.inr hall)
        unfold wpX2_playerWithMoreLife wpX2_end
        have r71 : (k3 (k3 (kSt K d 0 R.2.1 R.2.2) 6 5 d (nI (τ + 1))) 6 4 d (if 1 + (τ + 1) / 2 < 6 then nI (1 + (τ + 1) / 2) else 6)) 7 1 (2 * d) = R.2.1 := rd_71 _ _ _ _ _
        have r72 : (k3 (k3 (kSt K d 0 R.2.1 R.2.2) 6 5 d (nI (τ + 1))) 6 4 d (if 1 + (τ + 1) / 2 < 6 then nI (1 + (τ + 1) / 2) else 6)) 7 1 (2 * d + 1) = R.2.2 := rd_72 _ _ _ _ _
        rw [r71, r72]
        unfold wLi at fin42
        refine ⟨hdp, fun z => ⟨fun z2 => ⟨hdp, ?_⟩, fun z2 => ⟨hdp, ?_⟩⟩, fun z => ⟨hdp, ?_⟩⟩
        · rw [if_pos z2, if_neg (fun w => z (Int32.le_antisymm z2 w))] at fin42
          exact fin42
        · rw [if_neg z2] at fin42
          exact fin42
        · rw [if_pos (show R.2.1 ≤ R.2.2 by rw [z]; exact Int32.le_refl _), if_pos (show R.2.2 ≤ R.2.1 by rw [z]; exact Int32.le_refl _)] at fin42
          exact fin42
      · obtain ⟨_, lx, ly⟩ : R.1 = 1 ∧ lifeOK R.2.1 ∧ R.2.2 ≤ 0 := by
          rcases spec with z | z | z
          · omega
          · exact z
          · omega
        have fin42 := endC (K 6 5 d) (K 6 4 d) (Or.inl (by omega))
        rw [show k3 (kSt K d 0 R.2.1 R.2.2) 6 5 d (K 6 5 d) = kSt K d 0 R.2.1 R.2.2 from k3_id (kSt K d 0 R.2.1 R.2.2) 6 5 d, show k3 (kSt K d 0 R.2.1 R.2.2) 6 4 d (K 6 4 d) = kSt K d 0 R.2.1 R.2.2 from k3_id (kSt K d 0 R.2.1 R.2.2) 6 4 d, show wLi K d R.2.1 R.2.2 = K 7 0 (2 * d) by unfold wLi; rw [if_neg (fun z => life_0lt lx (Int32.le_trans z ly))]] at fin42
        refine ⟨hdp, fun _ => fin42, fun z => ?_⟩
        have e6 : (k3 (k3 (kSt K d 0 R.2.1 R.2.2) 6 2 d 101) 6 3 d (K 7 0 (2 * d))) 6 2 d = 101 := by
          show va_up (K 6 2) d 101 d = 101
          exact va_up_s _ _ _
        rw [e6] at z
        exact absurd z (by decide)
      · obtain ⟨_, lx, ly⟩ : R.1 = 2 ∧ R.2.1 ≤ 0 ∧ lifeOK R.2.2 := by
          rcases spec with z | z | z
          · omega
          · omega
          · exact z
        have fin42 := endC (K 6 5 d) (K 6 4 d) (Or.inl (by omega))
        obtain ⟨b, b1, b2, b3⟩ := ly
        have h0 : (0 : Int32) ≤ R.2.2 := by rw [b3]; exact nI_pos' (by omega)
        rw [show k3 (kSt K d 0 R.2.1 R.2.2) 6 5 d (K 6 5 d) = kSt K d 0 R.2.1 R.2.2 from k3_id (kSt K d 0 R.2.1 R.2.2) 6 5 d, show k3 (kSt K d 0 R.2.1 R.2.2) 6 4 d (K 6 4 d) = kSt K d 0 R.2.1 R.2.2 from k3_id (kSt K d 0 R.2.1 R.2.2) 6 4 d, show wLi K d R.2.1 R.2.2 = K 7 0 (2 * d + 1) by unfold wLi; rw [if_pos (Int32.le_trans lx h0), if_neg (fun z => life_0lt ⟨b, b1, b2, b3⟩ (Int32.le_trans z lx))]] at fin42
        refine ⟨hdp, fun _ => fin42, fun z => ?_⟩
        have e6 : (k3 (k3 (kSt K d 0 R.2.1 R.2.2) 6 2 d 101) 6 3 d (K 7 0 (2 * d + 1))) 6 2 d = 101 := by
          show va_up (K 6 2) d 101 d = 101
          exact va_up_s _ _ _
        rw [e6] at z
        exact absurd z (by decide)
    · unfold wpX7_endTurn
      refine ms_duel (n := nd) nd3 nd4 (fun _ _ _ => ⟨fun _ => ⟨vp_in_nI (by omega) (by omega), ?_⟩, fun q => absurd q (by decide)⟩) (fun z => absurd (in_nI hd (by omega)) z)
      rw [nI_clamp (n := d) (by omega), e16, phv_103 a4]
      refine ⟨fun z => absurd z q, fun _ => ?_⟩
      unfold wpX7_failsChar wpX7_thrown
      exact ⟨rfl, rfl, fun q => absurd q (by decide), inv_rd2 0 2 ht hu hs (by omega) (by omega) h⟩
  · unfold wpX7_endTurn
    refine ms_duel (n := nd) nd3 nd4 (fun j hj e => absurd (by rw [e]; exact in_nI hj (by omega)) z) (fun _ => ⟨fun q => absurd rfl q, fun _ => ?_⟩)
    unfold wpX7_failsChar wpX7_thrown
    exact ⟨rfl, rfl, fun q => absurd q (by decide), inv_rd2 0 1 ht hu hs (by omega) (by omega) h⟩
