/-! endTurn, the call -/
theorem kSt_id {K : KS} {d : Nat} {a x y : Int32} (h1 : K 6 7 d = a) (h2 : K 7 1 (2 * d) = x) (h3 : K 7 1 (2 * d + 1) = y) : kSt K d a x y = K := by
  unfold kSt
  rw [← h1, k3_id, ← h2, k3_id, ← h3, k3_id]
theorem mSt_id {M : KS} {d : Nat} {a x y : Int32} (h1 : M 16 24 d = a) (h2 : M 16 18 (2 * d) = x) (h3 : M 16 18 (2 * d + 1) = y) : mSt M d a x y = M := by
  unfold mSt
  rw [← h1, k3_id, ← h2, k3_id, ← h3, k3_id]
/-- who wins by lives -/
def wLi (K : KS) (d : Nat) (x y : Int32) : Int32 := if x ≤ y then (if y ≤ x then -1 else K 7 0 (2 * d + 1)) else K 7 0 (2 * d)
theorem wLi3 (K : KS) (d : Nat) (x y : Int32) : wLi K d x y = -1 ∨ wLi K d x y = K 7 0 (2 * d) ∨ wLi K d x y = K 7 0 (2 * d + 1) := by
  unfold wLi
  by_cases q : x ≤ y
  · rw [if_pos q]
    by_cases q2 : y ≤ x
    · rw [if_pos q2]
      exact Or.inl rfl
    · rw [if_neg q2]
      exact Or.inr (Or.inr rfl)
  · rw [if_neg q]
    exact Or.inr (Or.inl rfl)
theorem life_0lt {x : Int32} (h : lifeOK x) : ¬ x ≤ 0 := by
  obtain ⟨a, h1, h2, rfl⟩ := h
  exact nI_nle (by omega) (by omega)
-- k rows
theorem k_endTurn {t np nc nd no : Nat} {sn : Nat → Nat} {K : KS} {G : Int32 → KS → Prop} {p1 p2 p3 : Int32} (ht : t < 512) (hI : V36 t np nc nd no sn K) (hf : ∀ v : Int32, v < 0 → G v K) (hK : ∀ v K' d, d < nd → p1 = nI d → (v = 101 ∨ v = 103) → K' 6 2 d = v → V36 (t+1) np nc nd no sn K' → SM K K' → K' 6 7 d = 0 → G v K') : wpL_c12 G 10 14000 K p1 p2 p3 := by
  obtain ⟨ns, P, r, cn, dp, ew, go, bl, sl, sk, M, ap, h⟩ := hI
  have nd1 := rx_nd1 h
  have nd2 := rx_nd2 h
  have nd3 := rx_nd3 h
  have nd4 := rx_nd4 h
  have nc4 := rx_nc4 h
  have lc1 := rx_lc1 h
  have l1 := rx_l1 h
  have g2 := rx_g2 h
  have d1 := rx_d1 h
  have d2 := rx_d2 h
  have d3 := rx_d3 h
  have d5 := rx_d5 h
  have d6 := rx_d6 h
  have d7 := rx_d7 h
  have d8 := rx_d8 h
  have d9 := rx_d9 h
  have d10 := rx_d10 h
  have d11 := rx_d11 h
  have hD : nD K = nd := nD_of nd2 (by omega)
  unfold wpL_c12 wpX6_endTurn
  refine ⟨1, 6, by omega, by omega, at_duel nd1 nd2 lc1 nd4 l1 (fun d hd e => ?_) (fun _ => ⟨by omega, by omega, xI (hf _ (by decide))⟩)⟩
  · subst e
    obtain ⟨a1, a2, a3, a4, a5⟩ := d2 d hd
    have hdp : d < nD K := by omega
    rw [a2, phv_103 a4]
    refine ⟨hdp, fun q => ?_, fun q => ⟨by omega, by omega, xU (hf _ (by decide))⟩⟩
    · obtain ⟨τ, t1, t2, t3, t4⟩ := d6 d hd q.1
      obtain ⟨⟨x, x1, x2, x3⟩, ⟨y, y1, y2, y3⟩, _⟩ := d5 d hd q.1
      obtain ⟨v1, v2, v3, v4⟩ := d10 d hd
      have hch : ∀ i, ∃ v, i < dp d → (K 17 d i = nI v ∧ enOK v) := fun i => by
        by_cases z : i < dp d
        · obtain ⟨a, b, c, b1, b2, b3, b4, b5⟩ := (d11 d hd i (by omega)).2 z
          exact ⟨_, fun _ => ⟨b5, a, b, c, b1, b2, b3, b4, rfl⟩⟩
        · exact ⟨0, fun w => absurd w z⟩
      obtain ⟨en, hen⟩ := Classical.skolem.mp hch
      have hok : ∀ i, i < dp d → enOK (en i) := fun i hi => (hen i hi).2
      obtain ⟨R, hRs⟩ : ∃ R, R = stk en (dp d) 0 0 x y := ⟨_, rfl⟩
      have spec := stk_spec (en := en) (dp d) 0 0 x y hok (by omega) x1 x2 y1 y2
      rw [← hRs] at spec
      have key : ∀ post : Unit → KS → Prop, stH post K d R → wpX2_doStack post K d := fun post hH => by
        have c := cl_stack (post := post) hD hd v3 (fun i hi => (hen i hi).1) (dp d) (dp d) (Nat.le_refl _) (Nat.le_refl _) hok (dp d + 1) 0 x y (by omega) (by omega) x1 x2 y1 y2 (by rw [← hRs]; exact hH)
        rw [kSt_id v1 x3 y3] at c
        exact ⟨dp d + 1, c⟩
      -- the end, on both sides
      have endC : ∀ u v : Int32, (¬ R.1 = 0 ∨ (∀ s, (s = 2 * d ∨ s = 2 * d + 1) → ∀ i, i < cn s → ¬ K 18 s i = 0)) → wX6_endTurn_42 (fun v K => G v K) (PX G) 10 14000 (0 + 1) (0 + 6) d (k3 (k3 (k3 (k3 (kSt K d 0 R.2.1 R.2.2) 6 5 d u) 6 4 d v) 6 2 d 101) 6 3 d (wLi K d R.2.1 R.2.2)) := by
        intro u v hor
        have h1 := rr_endA (x := R.2.1) (y := R.2.2) (u := u) (v := v) h hd q.1 q.2 t3 t1 (wLi3 K d R.2.1 R.2.2)
        have hev1 : va_up ew d 1 d = 1 := va_up_s _ _ _
        have hwin : (k3 (k3 (k3 (k3 (kSt K d 0 R.2.1 R.2.2) 6 5 d u) 6 4 d v) 6 2 d 101) 6 3 d (wLi K d R.2.1 R.2.2)) 6 3 d = wLi K d R.2.1 R.2.2 := k3_s _ _ _ _ _
        refine cl_end42 h1 ht hd hev1 q.1 hwin (by omega) (by omega) (fun r2 yy s1 s2 s3 => ?_)
        have h2 := rr_award h1 hd hev1 q.1 hwin s1 s2 s3
        refine hK 101 _ d hd rfl (Or.inl rfl) ?_ ⟨ns, _, _, cn, _, _, go, bl, sl, sk, _, ap, h2⟩ ⟨rfl, rfl, rfl⟩ ?_
        · show va_up (K 6 2) d 101 d = 101
          exact va_up_s _ _ _
        · exact rd_67 K d 0 R.2.1 R.2.2
      have e62 : (kSt K d 0 R.2.1 R.2.2) 6 2 d = 103 := a2.trans ((phv_103 a4).mpr q)
      refine key _ ⟨fun r0 => ?_, fun r1 => ?_, fun r2 => ?_⟩
      · -- it goes on, or all is played
        obtain ⟨_, lx, ly⟩ : R.1 = 0 ∧ lifeOK R.2.1 ∧ lifeOK R.2.2 := by
          rcases spec with z | z | z
          · exact z
          · omega
          · omega
        refine ⟨hdp, fun z => absurd e62 z, fun _ => ?_⟩
        have e65 : (kSt K d 0 R.2.1 R.2.2) 6 5 d = nI τ := t2
        have hv : (if (1 : Int32) + nI (τ + 1) / 2 < 6 then 1 + nI (τ + 1) / 2 else 6) = (if 1 + (τ + 1) / 2 < 6 then nI (1 + (τ + 1) / 2) else 6) := by
          rw [show nI (τ + 1) / 2 = nI ((τ + 1) / 2) from pk_div (d := 2) (by omega) (by omega) (by omega), show (1 : Int32) + nI ((τ + 1) / 2) = nI (1 + (τ + 1) / 2) from nI_add 1 _]
          by_cases z : 1 + (τ + 1) / 2 < 6
          · rw [if_pos z, if_pos (show nI (1 + (τ + 1) / 2) < (6 : Int32) from nI_lt (b := 6) z (by omega))]
          · rw [if_neg z, if_neg (show ¬ nI (1 + (τ + 1) / 2) < (6 : Int32) from nI_nlt (b := 6) (by omega) (by omega))]
        unfold wpX2_passTurn
        rw [e65, nI_1, k3_s, hv]
        have on42 : ∀ {post : Int32 → KS → Prop} {px : String → KS → Prop} {v : Int32}, post 103 (k3 (k3 (kSt K d 0 R.2.1 R.2.2) 6 5 d (nI (τ + 1))) 6 4 d v) → wX6_endTurn_42 post px 10 14000 (0 + 1) (0 + 6) d (k3 (k3 (kSt K d 0 R.2.1 R.2.2) 6 5 d (nI (τ + 1))) 6 4 d v) := by
          intro post px v hp
          have e6 : (k3 (k3 (kSt K d 0 R.2.1 R.2.2) 6 5 d (nI (τ + 1))) 6 4 d v) 6 2 d = 103 := e62
          unfold wX6_endTurn_42
          rw [e6]
          exact ⟨hdp, fun _ => ⟨rfl, hp⟩, fun z => absurd z (by decide)⟩
        have goes : (∃ s, (s = 2 * d ∨ s = 2 * d + 1) ∧ ∃ i, i < cn s ∧ K 18 s i = 0) → wX6_endTurn_42 (fun v K => G v K) (PX G) 10 14000 (0 + 1) (0 + 6) d (k3 (k3 (kSt K d 0 R.2.1 R.2.2) 6 5 d (nI (τ + 1))) 6 4 d (if 1 + (τ + 1) / 2 < 6 then nI (1 + (τ + 1) / 2) else 6)) := by
          intro _
          refine on42 (hK 103 _ d hd rfl (Or.inr rfl) ?_ ⟨ns, P, r, cn, _, ew, go, bl, sl, sk, _, ap, rr_pass h hd q.1 q.2 t1 lx ly⟩ ⟨rfl, rfl, rfl⟩ ?_)
          · exact e62
          · exact rd_67 K d 0 R.2.1 R.2.2
        refine ⟨hdp, ?_⟩
        unfold wpX5_hasPlayedAll
        refine ⟨cn (2 * d) + 1, cl_all (K := k3 (k3 (kSt K d 0 R.2.1 R.2.2) 6 5 d (nI (τ + 1))) 6 4 d (if 1 + (τ + 1) / 2 < 6 then nI (1 + (τ + 1) / 2) else 6)) hD (by omega) (d7 (2 * d) (by omega)).1 (d7 (2 * d) (by omega)).2.2.1 (fun p0 => ⟨fun z => absurd z (by decide), fun _ => ?_⟩) (fun i hi h0 => ⟨fun _ => goes ⟨2 * d, Or.inl rfl, i, hi, h0⟩, fun z => absurd rfl z⟩) (cn (2 * d)) 0 (by omega) (fun j hj => absurd hj (Nat.not_lt_zero j))⟩
        refine ⟨cn (2 * d + 1) + 1, cl_all (K := k3 (k3 (kSt K d 0 R.2.1 R.2.2) 6 5 d (nI (τ + 1))) 6 4 d (if 1 + (τ + 1) / 2 < 6 then nI (1 + (τ + 1) / 2) else 6)) hD (by omega) (d7 (2 * d + 1) (by omega)).1 (d7 (2 * d + 1) (by omega)).2.2.1 (fun p1_ => ⟨fun z => absurd z (by decide), fun _ => ?_⟩) (fun i hi h0 => ⟨fun _ => goes ⟨2 * d + 1, Or.inr rfl, i, hi, h0⟩, fun z => absurd rfl z⟩) (cn (2 * d + 1)) 0 (by omega) (fun j hj => absurd hj (Nat.not_lt_zero j))⟩
        have hall : ∀ s, (s = 2 * d ∨ s = 2 * d + 1) → ∀ i, i < cn s → ¬ K 18 s i = 0 := fun s hs2 i hi => by
          rcases hs2 with z | z
          · subst z
            exact p0 i hi
          · subst z
            exact p1_ i hi
        have fin42 := endC (nI (τ + 1)) (if 1 + (τ + 1) / 2 < 6 then nI (1 + (τ + 1) / 2) else 6) (Or.inr hall)
        unfold wpX2_playerWithMoreLife wpX2_end
        have r71 : (k3 (k3 (kSt K d 0 R.2.1 R.2.2) 6 5 d (nI (τ + 1))) 6 4 d (if 1 + (τ + 1) / 2 < 6 then nI (1 + (τ + 1) / 2) else 6)) 7 1 (2 * d) = R.2.1 := rd_71 _ _ _ _ _
        have r72 : (k3 (k3 (kSt K d 0 R.2.1 R.2.2) 6 5 d (nI (τ + 1))) 6 4 d (if 1 + (τ + 1) / 2 < 6 then nI (1 + (τ + 1) / 2) else 6)) 7 1 (2 * d + 1) = R.2.2 := rd_72 _ _ _ _ _
        rw [r71, r72]
        unfold wLi at fin42
        refine ⟨hdp, fun z => ⟨fun z2 => ⟨hdp, ?_⟩, fun z2 => ⟨hdp, ?_⟩⟩, fun z => ⟨hdp, ?_⟩⟩
        · rw [if_pos z2, if_neg (fun w => z (Int32.le_antisymm z2 w))] at fin42
          exact fin42
        · rw [if_neg z2] at fin42
          exact fin42
        · rw [if_pos (show R.2.1 ≤ R.2.2 by rw [z]; exact Int32.le_refl _), if_pos (show R.2.2 ≤ R.2.1 by rw [z]; exact Int32.le_refl _)] at fin42
          exact fin42
      · obtain ⟨_, lx, ly⟩ : R.1 = 1 ∧ lifeOK R.2.1 ∧ R.2.2 ≤ 0 := by
          rcases spec with z | z | z
          · omega
          · exact z
          · omega
        have fin42 := endC (K 6 5 d) (K 6 4 d) (Or.inl (by omega))
        rw [show k3 (kSt K d 0 R.2.1 R.2.2) 6 5 d (K 6 5 d) = kSt K d 0 R.2.1 R.2.2 from k3_id (kSt K d 0 R.2.1 R.2.2) 6 5 d, show k3 (kSt K d 0 R.2.1 R.2.2) 6 4 d (K 6 4 d) = kSt K d 0 R.2.1 R.2.2 from k3_id (kSt K d 0 R.2.1 R.2.2) 6 4 d, show wLi K d R.2.1 R.2.2 = K 7 0 (2 * d) by unfold wLi; rw [if_neg (fun z => life_0lt lx (Int32.le_trans z ly))]] at fin42
        refine ⟨hdp, fun _ => fin42, fun z => ?_⟩
        have e6 : (k3 (k3 (kSt K d 0 R.2.1 R.2.2) 6 2 d 101) 6 3 d (K 7 0 (2 * d))) 6 2 d = 101 := by
          show va_up (K 6 2) d 101 d = 101
          exact va_up_s _ _ _
        rw [e6] at z
        exact absurd z (by decide)
      · obtain ⟨_, lx, ly⟩ : R.1 = 2 ∧ R.2.1 ≤ 0 ∧ lifeOK R.2.2 := by
          rcases spec with z | z | z
          · omega
          · omega
          · exact z
        have fin42 := endC (K 6 5 d) (K 6 4 d) (Or.inl (by omega))
        obtain ⟨b, b1, b2, b3⟩ := ly
        have h0 : (0 : Int32) ≤ R.2.2 := by rw [b3]; exact nI_pos' (by omega)
        rw [show k3 (kSt K d 0 R.2.1 R.2.2) 6 5 d (K 6 5 d) = kSt K d 0 R.2.1 R.2.2 from k3_id (kSt K d 0 R.2.1 R.2.2) 6 5 d, show k3 (kSt K d 0 R.2.1 R.2.2) 6 4 d (K 6 4 d) = kSt K d 0 R.2.1 R.2.2 from k3_id (kSt K d 0 R.2.1 R.2.2) 6 4 d, show wLi K d R.2.1 R.2.2 = K 7 0 (2 * d + 1) by unfold wLi; rw [if_pos (Int32.le_trans lx h0), if_neg (fun z => life_0lt ⟨b, b1, b2, b3⟩ (Int32.le_trans z lx))]] at fin42
        refine ⟨hdp, fun _ => fin42, fun z => ?_⟩
        have e6 : (k3 (k3 (kSt K d 0 R.2.1 R.2.2) 6 2 d 101) 6 3 d (K 7 0 (2 * d + 1))) 6 2 d = 101 := by
          show va_up (K 6 2) d 101 d = 101
          exact va_up_s _ _ _
        rw [e6] at z
        exact absurd z (by decide)
