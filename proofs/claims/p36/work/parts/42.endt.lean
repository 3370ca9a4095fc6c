/-! endTurn -/
theorem grow_ok {r X : Nat} (g4 : rOK r) (hX : X ≤ 3994) (z : ¬ 3 * X ≤ r) : 2 * r ≤ 13824 := by
  unfold rOK at g4
  omega
theorem stk_spec {en : Nat → Nat} : ∀ n fl ad x y, (∀ i, i < n → enOK (en i)) → ad + 4 * n ≤ 32 → 1 ≤ x → x ≤ 20 → 1 ≤ y → y ≤ 20 → ((stk en n fl ad x y).1 = 0 ∧ lifeOK (stk en n fl ad x y).2.1 ∧ lifeOK (stk en n fl ad x y).2.2) ∨ ((stk en n fl ad x y).1 = 1 ∧ lifeOK (stk en n fl ad x y).2.1 ∧ (stk en n fl ad x y).2.2 ≤ 0) ∨ ((stk en n fl ad x y).1 = 2 ∧ (stk en n fl ad x y).2.1 ≤ 0 ∧ lifeOK (stk en n fl ad x y).2.2) := by
  intro n
  induction n with
  | zero =>
    intro fl ad x y _ _ h1 h2 h3 h4
    exact Or.inl ⟨rfl, ⟨x, h1, h2, rfl⟩, ⟨y, h3, h4, rfl⟩⟩
  | succ n ih =>
    intro fl ad x y hok had h1 h2 h3 h4
    obtain ⟨a, b, c, ha, hb, hc, hc2, hv⟩ := hok n (by omega)
    have r1 : en n / 100 = a := by omega
    have r2 : en n / 10 % 10 = b := by omega
    have r3 : en n % 10 = c := by omega
    have hok2 : ∀ i, i < n → enOK (en i) := fun i hi => hok i (by omega)
    have hst : stk en (n + 1) fl ad x y = if fl = 1 then stk en n 0 0 x y else if b = 0 then (if a = 0 then (if c + ad < y then stk en n 0 0 x (y - (c + ad)) else (1, nI x, nI y - nI (c + ad))) else (if c + ad < x then stk en n 0 0 (x - (c + ad)) y else (2, nI x - nI (c + ad), nI y))) else if b = 1 then (if a = 0 then stk en n 0 0 (if x + (c + ad) < 20 then x + (c + ad) else 20) y else stk en n 0 0 x (if y + (c + ad) < 20 then y + (c + ad) else 20)) else if b = 2 then stk en n 1 0 x y else stk en n 0 (c + ad) x y := by
      show (if fl = 1 then _ else _) = _
      rw [r1, r2, r3]
    rw [hst]
    by_cases q : fl = 1
    · rw [if_pos q]
      exact ih 0 0 x y hok2 (by omega) h1 h2 h3 h4
    · rw [if_neg q]
      by_cases b0 : b = 0
      · rw [if_pos b0]
        by_cases a0 : a = 0
        · rw [if_pos a0]
          by_cases z : c + ad < y
          · rw [if_pos z]
            exact ih 0 0 _ _ hok2 (by omega) h1 h2 (by omega) (by omega)
          · rw [if_neg z]
            exact Or.inr (Or.inl ⟨rfl, ⟨x, h1, h2, rfl⟩, sub_le0 (by omega) (by omega)⟩)
        · rw [if_neg a0]
          by_cases z : c + ad < x
          · rw [if_pos z]
            exact ih 0 0 _ _ hok2 (by omega) (by omega) (by omega) h3 h4
          · rw [if_neg z]
            exact Or.inr (Or.inr ⟨rfl, sub_le0 (by omega) (by omega), ⟨y, h3, h4, rfl⟩⟩)
      · rw [if_neg b0]
        by_cases b1 : b = 1
        · rw [if_pos b1]
          by_cases a0 : a = 0
          · rw [if_pos a0]
            exact ih 0 0 _ _ hok2 (by omega) (by split <;> omega) (by split <;> omega) h3 h4
          · rw [if_neg a0]
            exact ih 0 0 _ _ hok2 (by omega) h1 h2 (by split <;> omega) (by split <;> omega)
        · rw [if_neg b1]
          by_cases b2 : b = 2
          · rw [if_pos b2]
            exact ih 1 0 x y hok2 (by omega) h1 h2 h3 h4
          · rw [if_neg b2]
            exact ih 0 _ x y hok2 (by omega) h1 h2 h3 h4
theorem rr_pass {t np nc nd no ns P r : Nat} {cn sn dp ew go bl sl : Nat → Nat} {sk : Nat → Nat → Nat} {K M : KS} {ap : Int64} {d τ : Nat} {x y v : Int32} (h : RR t t np nc nd no ns P r cn sn dp ew ew go bl sl sk K M ap) (hd : d < nd) (hw : ew d = 0) (hg : go d = 1) (hτ3 : τ ≤ t) (hx : lifeOK x) (hy : lifeOK y) : RR (t+1) (t+1) np nc nd no ns P r cn sn (va_up dp d 0) ew ew go bl sl sk (k3 (k3 (kSt K d 0 x y) 6 5 d (nI (τ + 1))) 6 4 d v) (k3 (k3 (mSt (k3 M 3 0 0 0) d 0 x y) 16 20 d (nI (τ + 1))) 16 19 d v) ap := by
  have hxx := rr_up (Nat.le_succ t) (Nat.le_succ t) h
  have hdt := rx_dt h
  obtain ⟨np1, np2, np3, nc1, nc2, nc3, nc4, nd1, nd2, nd3, nd4, no1, no2, no3, no4, ns1, ns2, ns3, lc0, lc1, lc2, lc3, l0, l1, l2, pl, sd, hs_, av, ab, c0, c1, c2, c3, c4, c6, c7, g1, g2, g3, g4, g5, g6, g7, g8, g9, d1, d2, d3, d4, d5, d6, dt, d7, d8, d9, d10, d11, d12, d13, d14, z0, n1, n0, n2, n5, n6, o1, o2, o3, o4, o5, o6, o7, ow, o8, o9⟩ := hxx
  unfold RR
  refine ⟨np1, np2, np3, nc1, nc2, nc3, nc4, nd1, nd2, nd3, nd4, no1, no2, no3, no4, ns1, ns2, ns3, lc0, lc1, lc2, lc3, l0, l1, l2, pl, sd, hs_, av, ab, c0, c1, c2, c3, c4, c6, c7, g1, g2, g3, g4, g5, g6, g7, g8, g9, d1, d2, ?q_d3, d4, ?q_d5, ?q_d6, ?q_dt, d7, d8, d9, ?q_d10, ?q_d11, d12, d13, d14, ?q_z0, n1, n0, n2, n5, n6, o1, o2, o3, o4, o5, o6, o7, ow, o8, o9⟩
  case q_d3 =>
    intro s hs
    show va_up (va_up (K 7 1) (2 * d) x) (2 * d + 1) y s = va_up (va_up (M 16 18) (2 * d) x) (2 * d + 1) y s
    rw [up_if, up_if, up_if, up_if, d3 s hs]
  case q_d5 =>
    intro e hd2 q
    obtain ⟨a1, a2, a3⟩ := d5 e hd2 q
    show lifeOK (va_up (va_up (K 7 1) (2 * d) x) (2 * d + 1) y (2 * e)) ∧ lifeOK (va_up (va_up (K 7 1) (2 * d) x) (2 * d + 1) y (2 * e + 1)) ∧ (_ → va_up (K 6 4) d v e = va_up (M 16 19) d v e)
    by_cases z : e = d
    · rw [up_if, up_if, up_if, up_if, up_if, up_if, if_neg (by omega), if_pos (by omega), if_pos (by omega), if_pos z, if_pos z]
      exact ⟨hx, hy, fun _ => rfl⟩
    · rw [up_if, up_if, up_if, up_if, up_if, up_if, if_neg (by omega), if_neg (by omega), if_neg (by omega), if_neg (by omega), if_neg z, if_neg z]
      exact ⟨a1, a2, a3⟩
  case q_d6 =>
    intro e hd2 q
    obtain ⟨ρ, a1, a2, a3, a4⟩ := d6 e hd2 q
    show ∃ ρ, ρ ≤ t + 1 ∧ va_up (K 6 5) d (nI (τ + 1)) e = nI ρ ∧ va_up (M 16 20) d (nI (τ + 1)) e = nI ρ ∧ va_up dp d 0 e ≤ cntE (K 18 (2 * e + ρ % 2)) 1 8
    by_cases z : e = d
    · rw [up_if, up_if, up_if, if_pos z, if_pos z, if_pos z]
      exact ⟨τ + 1, by omega, rfl, rfl, Nat.zero_le _⟩
    · rw [up_if, up_if, up_if, if_neg z, if_neg z, if_neg z]
      exact ⟨ρ, a1, a2, a3, a4⟩
  case q_dt =>
    intro e hd2
    show ∃ ρ, ρ ≤ t + 1 ∧ va_up (M 16 20) d (nI (τ + 1)) e = nI ρ
    rw [up_if]
    by_cases z : e = d
    · rw [if_pos z]
      exact ⟨τ + 1, by omega, rfl⟩
    · rw [if_neg z]
      exact dt e hd2
  case q_d10 =>
    intro e hd2
    obtain ⟨a1, a2, a3, a4⟩ := d10 e hd2
    show va_up (K 6 7) d 0 e = _ ∧ va_up (M 16 24) d 0 e = _ ∧ _
    rw [up_if, up_if, up_if]
    by_cases z : e = d
    · rw [if_pos z, if_pos z, if_pos z]
      exact ⟨rfl, rfl, by omega, fun _ => rfl⟩
    · rw [if_neg z, if_neg z, if_neg z]
      exact ⟨a1, a2, a3, a4⟩
  case q_d11 =>
    intro e hd2 i hi
    obtain ⟨a1, a2⟩ := d11 e hd2 i hi
    refine ⟨a1, fun q => a2 ?_⟩
    rw [up_if] at q
    by_cases z : e = d
    · rw [if_pos z] at q
      omega
    · rw [if_neg z] at q
      exact q
  case q_z0 =>
    intro e hd2 hd8
    obtain ⟨a1, a2, a3, a4, a5⟩ := z0 e hd2 hd8
    show va_up (M 16 20) d (nI (τ + 1)) e = 0 ∧ _ ∧ _ ∧ va_up (M 16 24) d 0 e = 0 ∧ _
    rw [up_if, up_if, if_neg (by omega), if_neg (by omega)]
    exact ⟨a1, a2, a3, a4, a5⟩
/-- the awards, on the side that is held -/
theorem cl_end42 {t e np nc nd no ns P r : Nat} {cn sn dp ew ev go bl sl : Nat → Nat} {sk : Nat → Nat → Nat} {K M : KS} {ap : Int64} {post : Int32 → KS → Prop} {px : String → KS → Prop} {d mc ms uc us : Nat} {w : Int32} (h : RR t e np nc nd no ns P r cn sn dp ew ev go bl sl sk K M ap) (he : e < 512) (hd : d < nd) (hev : ev d = 1) (hew : ew d = 0) (hw3 : K 6 3 d = w) (hmc : uc + 1 ≤ mc) (hms : us + 13824 ≤ ms) (hp : ∀ r2 y, rOK r2 → 3 * (hF (sk (2 * d + 1)) w 0 (cn (2 * d + 1)) (hF (sk (2 * d)) w 0 (cn (2 * d)) (P, K 11 0, K 4 2))).1 ≤ r2 → hRf y (hF (sk (2 * d + 1)) w 0 (cn (2 * d + 1)) (hF (sk (2 * d)) w 0 (cn (2 * d)) (P, K 11 0, K 4 2))) → post 101 (kH (kr K 4 3 (stF (sk (2 * d + 1)) 119 0 (cn (2 * d + 1)) (stF (sk (2 * d)) 119 0 (cn (2 * d)) (K 4 3)))) r2 y)) : wX6_endTurn_42 post px mc ms uc us d K := by
  have nc2 := rx_nc2 h
  have nc4 := rx_nc4 h
  have nd2 := rx_nd2 h
  have nd4 := rx_nd4 h
  have c0 := rx_c0 h
  have g1 := rx_g1 h
  have g3 := rx_g3 h
  have g4 := rx_g4 h
  have g5 := rx_g5 h
  have g8 := rx_g8 h
  have g9 := rx_g9 h
  have d2 := rx_d2 h
  have d7 := rx_d7 h
  have d8 := rx_d8 h
  have hw := (rx_d4 h d hd (by omega)).2
  rw [hw3] at hw
  obtain ⟨⟨sP, hsP, hPle⟩, hin, hout⟩ := aw_facts h hd hew hw
  have h62 : K 6 2 d = 101 := by
    obtain ⟨_, a2, a3, a4, _⟩ := d2 d hd
    rw [a2]
    exact (phv_101 a4).mpr hev
  have hD : nD K = nd := nD_of nd2 (by omega)
  have hC : nC K = nc := nC_of nc2 (by omega)
  have hr := rOK_le g4
  have hs8 := (d7 sP (by omega)).2.2.1
  have hPb := rr_Pn (P2 := (hF (sk (2 * d + 1)) w 0 (cn (2 * d + 1)) (hF (sk (2 * d)) w 0 (cn (2 * d)) (P, K 11 0, K 4 2))).1) (e2 := e + 1) h (by omega) (by
    rcases g9 with z | z
    · exact Or.inl z
    · rcases (by omega : cn sP = 8 ∨ cn sP ≤ 7) with v | v
      · exact Or.inl ⟨sP, by omega, v⟩
      · exact Or.inr (by omega)) (by omega)
  have hge : (hF (sk (2 * d)) w 0 (cn (2 * d)) (P, K 11 0, K 4 2)).1 ≤ (hF (sk (2 * d + 1)) w 0 (cn (2 * d + 1)) (hF (sk (2 * d)) w 0 (cn (2 * d)) (P, K 11 0, K 4 2))).1 := hF_ge _ _ _
  have hgr : ¬ 3 * (hF (sk (2 * d + 1)) w 0 (cn (2 * d + 1)) (hF (sk (2 * d)) w 0 (cn (2 * d)) (P, K 11 0, K 4 2))).1 ≤ r → 2 * r ≤ 13824 := fun z => grow_ok g4 hPb z
  unfold wX6_endTurn_42
  refine ⟨by omega, fun q => absurd h62 q, fun _ => ?_⟩
  rw [hw3]
  have start : K = kH (kr K 4 3 (K 4 3)) r (P, K 11 0, K 4 2) := by
    rw [kr_id, kH_id g1 g3]
  have A0 := fun mc2 ms2 f g hb => cl_award (K := K) (mc := mc2) (ms := ms2) (s := 2 * d) (n := cn (2 * d)) (w := w) (sk := sk (2 * d)) hD hC (by omega) nc4 (d7 (2 * d) (by omega)).1 (d7 (2 * d) (by omega)).2.2.2 (d7 (2 * d) (by omega)).2.2.1 (fun i hi => ⟨(d8 (2 * d) (by omega) i hi).1, (d8 (2 * d) (by omega) i hi).2.2⟩) c0 (post := f) (cn (2 * d)) 0 (K 4 3) r (P, K 11 0, K 4 2) (P, K 11 0, K 4 2) 0 0 (Nat.zero_le _) (Nat.zero_le _) (by omega) ⟨rfl, fun _ _ => rfl, rfl⟩ g4 (by exact g5) (by omega) hb g
  have A00 : ∀ (mc2 ms2 : Nat) (f : Unit → KS → Prop), (∀ r2 y2, rOK r2 → 3 * (hF (sk (2 * d)) w 0 (cn (2 * d)) (P, K 11 0, K 4 2)).1 ≤ r2 → (r2 = r ∨ (r2 = 2 * r ∧ ¬ 3 * (hF (sk (2 * d)) w 0 (cn (2 * d)) (P, K 11 0, K 4 2)).1 ≤ r)) → hRf y2 (hF (sk (2 * d)) w 0 (cn (2 * d)) (P, K 11 0, K 4 2)) → f () (kH (kr K 4 3 (stF (sk (2 * d)) 119 0 (cn (2 * d)) (K 4 3))) r2 y2)) → (3 * (hF (sk (2 * d)) w 0 (cn (2 * d)) (P, K 11 0, K 4 2)).1 ≤ r ∨ (0 + 1 ≤ mc2 ∧ 0 + 2 * r ≤ ms2 ∧ 3 * (hF (sk (2 * d)) w 0 (cn (2 * d)) (P, K 11 0, K 4 2)).1 ≤ 2 * r)) → wX6_awardCards_2 f mc2 ms2 (cn (2 * d) + 1) 0 0 (2 * d) w 0 K := by
    intro mc2 ms2 f g hb
    have a := A0 mc2 ms2 f g hb
    rw [← start] at a
    exact a
  have A1 := fun mc2 ms2 st r2 y2 f g hb v1 v2 v3 => cl_award (K := K) (mc := mc2) (ms := ms2) (s := 2 * d + 1) (n := cn (2 * d + 1)) (w := w) (sk := sk (2 * d + 1)) hD hC (by omega) nc4 (d7 (2 * d + 1) (by omega)).1 (d7 (2 * d + 1) (by omega)).2.2.2 (d7 (2 * d + 1) (by omega)).2.2.1 (fun i hi => ⟨(d8 (2 * d + 1) (by omega) i hi).1, (d8 (2 * d + 1) (by omega) i hi).2.2⟩) c0 (post := f) (cn (2 * d + 1)) 0 st r2 y2 (hF (sk (2 * d)) w 0 (cn (2 * d)) (P, K 11 0, K 4 2)) 0 0 (Nat.zero_le _) (Nat.zero_le _) (by omega) v1 v2 v3 (by omega) hb g
  have last : ∀ r3 y3, rOK r3 → 3 * (hF (sk (2 * d + 1)) w 0 (cn (2 * d + 1)) (hF (sk (2 * d)) w 0 (cn (2 * d)) (P, K 11 0, K 4 2))).1 ≤ r3 → hRf y3 (hF (sk (2 * d + 1)) w 0 (cn (2 * d + 1)) (hF (sk (2 * d)) w 0 (cn (2 * d)) (P, K 11 0, K 4 2))) → d < nD K ∧ (narrow .char (.int (K 6 2 d)) = .int (K 6 2 d)) ∧ post (K 6 2 d) (kH (kr K 4 3 (stF (sk (2 * d + 1)) 119 0 (cn (2 * d + 1)) (stF (sk (2 * d)) 119 0 (cn (2 * d)) (K 4 3)))) r3 y3) := fun r3 y3 u1 u2 u3 => by
    rw [h62]
    exact ⟨by omega, rfl, hp r3 y3 u1 u2 u3⟩
  unfold wpX6_awardCards
  by_cases q0 : 3 * (hF (sk (2 * d)) w 0 (cn (2 * d)) (P, K 11 0, K 4 2)).1 ≤ r
  · refine ⟨0, 0, by omega, by omega, cn (2 * d) + 1, ?_⟩
    refine A00 0 0 _ (fun r2 y2 v1 v2 v3 v4 => ?_) (Or.inl q0)
    · have hr2 : r2 = r := by
        rcases v3 with v3 | v3
        · exact v3
        · exact absurd q0 v3.2
      subst hr2
      refine ⟨by show d < nD K; omega, ?_⟩
      show ∃ a16 a17, _ ∧ _ ∧ ∃ n1, wX6_awardCards_2 _ _ _ n1 0 0 (2 * d + 1) (K 6 3 d) 0 _
      rw [hw3]
      by_cases q1 : 3 * (hF (sk (2 * d + 1)) w 0 (cn (2 * d + 1)) (hF (sk (2 * d)) w 0 (cn (2 * d)) (P, K 11 0, K 4 2))).1 ≤ r2
      · exact ⟨0, 0, by omega, by omega, cn (2 * d + 1) + 1, A1 0 0 _ r2 y2 _ (fun r3 y3 u1 u2 u3 u4 => last r3 y3 u1 u2 u4) (Or.inl q1) v4 v1 v2⟩
      · have := hgr q1
        exact ⟨1, 2 * r2, by omega, by omega, cn (2 * d + 1) + 1, A1 1 (2 * r2) _ r2 y2 _ (fun r3 y3 u1 u2 u3 u4 => last r3 y3 u1 u2 u4) (Or.inr ⟨by omega, by omega, by omega⟩) v4 v1 v2⟩
  · have hq2 := hgr (by omega)
    refine ⟨1, 2 * r, by omega, by omega, cn (2 * d) + 1, ?_⟩
    refine A00 1 (2 * r) _ (fun r2 y2 v1 v2 v3 v4 => ?_) (Or.inr ⟨by omega, by omega, by omega⟩)
    · have hr2 : r2 = 2 * r := by
        rcases v3 with v3 | v3
        · omega
        · exact v3.1
      subst hr2
      refine ⟨by show d < nD K; omega, ?_⟩
      show ∃ a16 a17, _ ∧ _ ∧ ∃ n1, wX6_awardCards_2 _ _ _ n1 0 0 (2 * d + 1) (K 6 3 d) 0 _
      rw [hw3]
      exact ⟨0, 0, by omega, by omega, cn (2 * d + 1) + 1, A1 0 0 _ (2 * r) y2 _ (fun r3 y3 u1 u2 u3 u4 => last r3 y3 u1 u2 u4) (Or.inl (by omega)) v4 v1 v2⟩
