/-! buy, the call -/
theorem cl_addCoins {post : Unit → KS → Prop} {K : KS} {p : Nat} {v : Int32} (hp : p < 6) (h : post () (k3 K 10 0 p (K 10 0 p + v))) : wpX6_addCoins post K (nI p) v := by
  unfold wpX6_addCoins
  rw [nI_clamp (by omega)]
  exact ⟨fun q => absurd q (nI_pos (by omega)), fun _ => ⟨fun q => absurd q (nI_ge (a := p) (b := 6) hp (by omega)), fun _ => ⟨vp_in_nI hp (by omega), h⟩⟩⟩
theorem cl_sell73 {post : Unit → KS → Prop} {B : KS} {k c p P r no nc ns : Nat} {sl : Nat → Nat} (hO : nO B = no) (hk : k < no) (hC : nC B = nc) (hc : c < nc) (hnc : nc ≤ 40) (hno : no ≤ 60) (hkc : B 5 0 k = nI c) (g1 : B 1 1 0 = nI P) (g3 : B 1 5 0 = nI r) (g4 : rOK r) (g5 : 3 * P ≤ r) (hP : P ≤ 3994) (h0 : B 4 0 c = nI c) (hp6 : p < 6) (hne : B 4 2 c ≠ nI p) (ns1 : B 8 2 3 = nI ns) (lc3 : lcp (B 8 3 3) ns) (hns : ns ≤ no) (hsl : ∀ j, j < ns → B 9 3 j = nI (sl j) ∧ sl j < no) (hp : ∀ r2 y, rOK r2 → 3 * (P + 1) ≤ r2 → hRf y (hE c (B 4 2 c) (nI p) (P, B 11 0, B 4 2)) → post () (lAdd (kH B r2 y) 3 k)) : wX6_sell_73 post 5 13984 0 0 k (nI p) B := by
  unfold wX6_sell_73
  rw [hkc, nI_clamp (by omega)]
  have es : hS c (nI p) (P, B 11 0, B 4 2) = hE c (B 4 2 c) (nI p) (P, B 11 0, B 4 2) := by
    unfold hS
    rw [if_neg (fun z => z.elim (nI_neg1 (by omega)) hne)]
  have hg2 : 3 * (P + 1) ≤ r ∨ (1 ≤ 1 ∧ 2 * r ≤ 13824) := by
    unfold rOK at g4
    omega
  refine ⟨by omega, 1, 13824, by omega, by omega, ?_⟩
  have key := hand_ok (K := B) (y := (P, B 11 0, B 4 2)) (x := (P, B 11 0, B 4 2)) (r := r) (c := c) (nc := nc) (w := nI p) (mc := 1) (ms := 13824) (post := fun _ K11 => (k < nO K11) ∧ (∃ a13 a14 : Nat, (0 + 1) + a13 ≤ 5 ∧ (0 + 13824) + a14 ≤ 13984 ∧ okAdd K11 3 a13 a14 ∧ (post () (lAdd K11 3 k)))) ⟨rfl, fun _ _ => rfl, rfl⟩ g4 g5 (by show P < 4000; omega) hC hc h0 (nI_neg1 (by omega)) (Or.inr hg2) (fun r2 y2 q1 q2 _ q4 => ?_)
  · rw [kH_id g1 g3] at key
    exact key
  · rw [es] at q2 q4
    refine ⟨by show k < nO B; omega, 1, 160, by omega, by omega, ok_add (K := kH B r2 y2) (cnt := ns) ns1 lc3 (by omega) (by omega) (by omega) (fun j hj => ?_), hp r2 y2 q1 q2 q4⟩
    show (B 9 3 j).toNatClampNeg < nO B
    obtain ⟨v1, v2⟩ := hsl j hj
    rw [v1, nI_clamp (by omega), hO]
    exact v2
theorem c_buy {t uc us : Nat} {K M : KS} {ap o : Int64} {od : UInt64} {p1 p2 : Int32} (ht : t < 512) (hI : InvC t uc us K M ap) : st_buy (InvC (t + 1)) uc us K M ap o od p1 p2 := by
  obtain ⟨_, hu, hs, np, nc, nd, no, ns, P, r, cn, sn, dp, ew, go, bl, sl, sk, h⟩ := hI
  have np1 := rx_np1 h
  have np2 := rx_np2 h
  have np3 := rx_np3 h
  have nc2 := rx_nc2 h
  have nc4 := rx_nc4 h
  have nd4 := rx_nd4 h
  have no1 := rx_no1 h
  have no2 := rx_no2 h
  have no3 := rx_no3 h
  have no4 := rx_no4 h
  have lc2 := rx_lc2 h
  have l2 := rx_l2 h
  have lc3 := rx_lc3 h
  have ns1 := rx_ns1 h
  have ns2 := rx_ns2 h
  have ns3 := rx_ns3 h
  have pl := rx_pl h
  have hs_ := rx_hs_ h
  have c0 := rx_c0 h
  have c2 := rx_c2 h
  have c3 := rx_c3 h
  have g1 := rx_g1 h
  have g2 := rx_g2 h
  have g3 := rx_g3 h
  have g4 := rx_g4 h
  have g5 := rx_g5 h
  have o1 := rx_o1 h
  have o2 := rx_o2 h
  have o3 := rx_o3 h
  have o4 := rx_o4 h
  have o6 := rx_o6 h
  have o7 := rx_o7 h
  have ow := rx_ow h
  have o8 := rx_o8 h
  have hC : nC K = nc := nC_of nc2 (by omega)
  have hO : nO K = no := nO_of no2 (by omega)
  have hP := rr_P h (by omega)
  have fin : ∀ (v : Int32), v ≠ 0 → wpX7_fails (fun r22 M23 ap24 => wpX7_thrown (fun r1 => r1 = v ∧ (v = 0 → o = r22.toInt64) ∧ InvC (t + 1) (uc + 50) (us + 14000) K M23 ap24) M23 ap24) (k3 M 3 0 0 0) ap v := by
    intro v hv
    unfold wpX7_fails wpX7_thrown
    exact ⟨rfl, fun q => absurd q hv, inv_rd2 0 v ht hu hs (by omega) (by omega) h⟩
  unfold st_buy wpL_buy wpX6_buy
  refine ⟨50, 14000, by omega, by omega, 1, 6, by omega, by omega, nd_player (fun z => ?_) (fun z => ⟨by omega, by omega, Or.inl ⟨rfl, ?_⟩⟩)⟩
  · rw [np1] at z
    obtain ⟨p, hp, rfl⟩ := nI_inN (by omega) z.1 z.2
    refine ⟨1, 6, by omega, by omega, at_offer no1 no2 lc2 no4 l2 (fun k hk e => ?_) (fun z => ⟨by omega, by omega, Or.inl ⟨rfl, ?_⟩⟩)⟩
    · subst e
      obtain ⟨c, hc, hkc, hkm⟩ := o1 k hk
      obtain ⟨hpe, pr, pr1, pr2, pr3⟩ := o2 k hk
      obtain ⟨hse, q, hq, hqs⟩ := o4 k hk
      have hco : ∀ i, i < nc → M 16 7 i = K 4 2 i := fun i hi => (c2 i hi).1.symm
      have mok : ∀ {post : Int32 → KS → Int64 → Prop}, (¬ K 5 4 k = 111 → wpX7_fails post (k3 M 3 0 0 0) ap 2) → (K 5 4 k = 111 → K 4 2 c = nI p → wpX7_fails post (k3 M 3 0 0 0) ap 2) → (K 5 4 k = 111 → ¬ K 4 2 c = nI p → ¬ K 5 1 k ≤ K 10 0 p → wpX7_fails post (k3 M 3 0 0 0) ap 3) → (K 5 4 k = 111 → ¬ K 4 2 c = nI p → K 5 1 k ≤ K 10 0 p → (¬ K 4 3 c = 119 → wpX7_pays (fun _ M25 ap26 => wX7_buy_186 post (nI p) (nI k) (nI c) M25 ap26) (k3 (k3 (k3 (k3 (k3 (k3 (k3 M 3 0 0 0) 16 2 p (K 10 0 p - K 5 1 k)) 13 32 k 98) 16 10 c (-1)) 16 34 k (nI p)) 16 36 k (nI ns)) 3 37 0 (nI (ns + 1))) ap (nI k)) ∧ (K 4 3 c = 119 → wX7_buy_186 post (nI p) (nI k) (nI c) (k3 (k3 (k3 (k3 (k3 (k3 (k3 (k3 M 3 0 0 0) 16 2 p (K 10 0 p - K 5 1 k)) 13 32 k 98) 16 10 c (-1)) 16 34 k (nI p)) 16 36 k (nI ns)) 3 37 0 (nI (ns + 1))) 16 35 k (M 16 9 c)) (ap + (K 5 1 k).toInt64))) → wpX7_buy post M ap (nI p) (nI k) := by
        intro post w1 w2 w3 w4
        have v8 : vp_in (nI c) 40 := vp_in_nI (by omega) (by omega)
        have v6 : vp_in (nI k) 60 := vp_in_nI (by omega) (by omega)
        unfold wpX7_buy
        refine ms_player (n := np) np2 np3 (fun _ _ _ => ⟨fun q => absurd q (by decide), fun _ => ?_⟩) (fun z => absurd (in_nI hp (by omega)) z)
        refine ms_offer (n := no) no3 no4 (fun _ _ _ => ⟨fun _ => ⟨v6, ?_⟩, fun q => absurd q (by decide)⟩) (fun z => absurd (in_nI hk (by omega)) z)
        intro x9 hx
        rw [show (k3 M 3 0 0 0) 16 30 (nI k).toNatClampNeg = nI c by rw [nI_clamp (by omega)]; exact hkm] at hx
        subst hx
        show vp_in (nI k) 60 ∧ (¬ M 13 32 (nI k).toNatClampNeg = 111 → _) ∧ (M 13 32 (nI k).toNatClampNeg = 111 → vp_in (nI c) 40 ∧ (¬ M 16 7 (nI c).toNatClampNeg = nI p → vp_in (nI p) 6 ∧ vp_in (nI k) 60 ∧ (M 16 31 (nI k).toNatClampNeg ≤ M 16 2 (nI p).toNatClampNeg → vp_in (nI c) 40 ∧ vp_in (nI k) 60 ∧ vp_in (nI k) 60 ∧ vp_in (nI c) 40 ∧ (¬ M 13 8 (nI c).toNatClampNeg = 119 → wpX7_pays (fun _ M25 ap26 => wX7_buy_186 post (nI p) (nI k) (nI c) M25 ap26) (k3 (k3 (k3 (k3 (k3 (k3 (k3 M 3 0 0 0) 16 2 (nI p).toNatClampNeg (M 16 2 (nI p).toNatClampNeg - M 16 31 (nI k).toNatClampNeg)) 13 32 (nI k).toNatClampNeg 98) 16 10 (nI c).toNatClampNeg (-1)) 16 34 (nI k).toNatClampNeg (nI p)) 16 36 (nI k).toNatClampNeg (M 3 37 0)) 3 37 0 (M 3 37 0 + 1)) ap (nI k)) ∧ (M 13 8 (nI c).toNatClampNeg = 119 → vp_in (nI c) 40 ∧ vp_in (nI k) 60 ∧ wX7_buy_186 post (nI p) (nI k) (nI c) (k3 (k3 (k3 (k3 (k3 (k3 (k3 (k3 M 3 0 0 0) 16 2 (nI p).toNatClampNeg (M 16 2 (nI p).toNatClampNeg - M 16 31 (nI k).toNatClampNeg)) 13 32 (nI k).toNatClampNeg 98) 16 10 (nI c).toNatClampNeg (-1)) 16 34 (nI k).toNatClampNeg (nI p)) 16 36 (nI k).toNatClampNeg (M 3 37 0)) 3 37 0 (M 3 37 0 + 1)) 16 35 (nI k).toNatClampNeg (M 16 9 (nI c).toNatClampNeg)) (ap + (M 16 31 (nI k).toNatClampNeg).toInt64))) ∧ (¬ M 16 31 (nI k).toNatClampNeg ≤ M 16 2 (nI p).toNatClampNeg → _)) ∧ (M 16 7 (nI c).toNatClampNeg = nI p → _))
        rw [nI_clamp (n := k) (by omega), nI_clamp (n := c) (by omega), nI_clamp (n := p) (by omega), ← (o3 k hk).1, hco c hc, ← hpe, ← pl p hp, ← (c3 c hc).1, ns2, nI_1]
        exact ⟨v6, w1, fun y1 => ⟨v8, fun y2 => ⟨vp_in_nI (by omega) (by omega), v6, fun y3 => ⟨v8, v6, v6, v8, (w4 y1 y2 y3).1, fun y4 => ⟨v8, v6, (w4 y1 y2 y3).2 y4⟩⟩, fun y3 => w3 y1 y2 y3⟩, fun y2 => w2 y1 y2⟩⟩
      refine ⟨by omega, fun y => ⟨by omega, by omega, Or.inr (Or.inl ⟨rfl, mok (fun _ => fin 2 (by decide)) (fun _ _ => fin 2 (by decide)) (fun z => absurd z y) (fun z => absurd z y)⟩)⟩, fun y => ?_⟩
      rw [hkc, nI_clamp (by omega)]
      refine ⟨by omega, fun y2 => ⟨vp_in_nI (by omega) (by omega), ?_⟩, fun y2 => ⟨by omega, by omega, Or.inr (Or.inl ⟨rfl, mok (fun z => absurd y z) (fun _ _ => fin 2 (by decide)) (fun _ z => absurd y2 z) (fun _ z => absurd y2 z)⟩)⟩⟩
      rw [nI_clamp (by omega)]
      refine ⟨fun y3 => ⟨5, 13984, by omega, by omega, ?_⟩, fun y3 => ⟨by omega, by omega, Or.inr (Or.inr ⟨rfl, mok (fun z => absurd y z) (fun _ z => absurd z y2) (fun _ _ _ => fin 3 (by decide)) (fun _ _ z => absurd z y3)⟩)⟩⟩
      obtain ⟨cx, _, hcx1, hof, hsel, hst⟩ := o7 k hk y
      have ecx : cx = c := (nI_eq (by omega) (by omega)).mp (hcx1.symm.trans hkc)
      rw [ecx] at hst hsel hof
      unfold wpX6_sell
      refine ⟨by omega, cl_addCoins (by omega) ?_⟩
      rw [← Int32.sub_eq_add_neg]
      have hx0 : hR nc (P, K 11 0, K 4 2) (P, M 16 12, M 16 7) := ⟨rfl, rx_g6 h, fun i hi => (c2 i hi).1⟩
      have hslx : ∀ j, j < ns → K 9 3 j = nI (sl j) ∧ sl j < no := fun j hj => ⟨(o8 j hj).1, (o8 j hj).2.1⟩
      show k < nO K ∧ (K 5 0 k).toNatClampNeg < nC K ∧ (K 5 0 k).toNatClampNeg < nC K ∧ (¬ K 4 3 (K 5 0 k).toNatClampNeg = 119 → wpX6_paySeller _ (k3 (k3 (k3 (k3 K 10 0 p (K 10 0 p - K 5 1 k)) 5 4 k 98) 5 3 k (nI p)) 4 4 (K 5 0 k).toNatClampNeg 0) k) ∧ (K 4 3 (K 5 0 k).toNatClampNeg = 119 → wX6_sell_73 _ _ _ _ _ _ _ (k3 (k3 (k3 (k3 (k3 (k3 K 10 0 p (K 10 0 p - K 5 1 k)) 5 4 k 98) 5 3 k (nI p)) 4 4 (K 5 0 k).toNatClampNeg 0) 5 5 k (K 4 5 (K 5 0 k).toNatClampNeg)) 0 4 0 (K 0 4 0 + K 5 1 k)))
      rw [hkc, nI_clamp (n := c) (by omega)]
      refine ⟨by omega, by omega, by omega, fun hw => ?_, fun hw => ?_⟩
      · have h45 : K 4 3 c = 45 := by
          rcases (c3 c hc).2 with w | ⟨_, d3, _, _, w | w⟩
          · exact w.1
          · exact absurd w.2 hst
          · exact absurd w.2 hw
        unfold wpX6_paySeller
        refine ⟨by show k < nO K; omega, ?_⟩
        show wpX6_addCoins _ (k3 (k3 (k3 (k3 (k3 K 10 0 p (K 10 0 p - K 5 1 k)) 5 4 k 98) 5 3 k (nI p)) 4 4 c 0) 0 3 0 (K 0 3 0 + (K 5 1 k + 9) / 10)) (K 5 2 k) (K 5 1 k - (K 5 1 k + 9) / 10)
        rw [hqs]
        refine cl_addCoins (by omega) ?_
        refine cl_sell73 (sl := sl) hO hk hC hc nc4 no4 hkc g1 g3 g4 g5 hP (c0 c hc) (by omega) y2 ns1 lc3 ns3 hslx (fun r2 y w1 w2 w3 => ⟨by show k < nO K; omega, ?_⟩)
        show (K 5 0 k).toNatClampNeg < nC K ∧ _
        refine ⟨by rw [hkc, nI_clamp (by omega)]; omega, ?_⟩
        refine mok (fun z => absurd ‹K 5 4 k = 111› z) (fun _ z => absurd z y2) (fun _ _ z => absurd y3 z) (fun _ _ _ => ⟨fun _ => ?_, fun z => absurd z hw⟩)
        unfold wpX7_pays
        refine ⟨vp_in_nI (by omega) (by omega), ?_⟩
        intro x2 hx2
        have hx3 : x2 = (K 5 1 k + 9) / 10 := by
          rw [hx2]
          show (M 16 31 (nI k).toNatClampNeg + 9) / 10 = _
          rw [nI_clamp (by omega), hpe]
        rw [hx3]
        show vp_in (nI k) 60 ∧ vp_in (M 16 33 (nI k).toNatClampNeg) 6 ∧ wX7_buy_186 _ (nI p) (nI k) (nI c) (k3 (k3 (k3 (k3 (k3 (k3 (k3 (k3 (k3 M 3 0 0 0) 16 2 p (K 10 0 p - K 5 1 k)) 13 32 k 98) 16 10 c (-1)) 16 34 k (nI p)) 16 36 k (nI ns)) 3 37 0 (nI (ns + 1))) 3 3 0 (M 3 3 0 + (K 5 1 k + 9) / 10)) 16 2 (M 16 33 (nI k).toNatClampNeg).toNatClampNeg (va_up (M 16 2) p (K 10 0 p - K 5 1 k) (M 16 33 (nI k).toNatClampNeg).toNatClampNeg + (M 16 31 (nI k).toNatClampNeg - (K 5 1 k + 9) / 10))) ap
        rw [nI_clamp (n := k) (by omega), ← hse, hqs, nI_clamp (n := q) (by omega), ← hpe]
        refine ⟨vp_in_nI (by omega) (by omega), vp_in_nI (by omega) (by omega), ?_⟩
        unfold wX7_buy_186
        refine ⟨vp_in_nI (by omega) (by omega), ?_⟩
        rw [nI_clamp (n := k) (by omega)]
        show wpX7_posts _ _ ap (nI c) (M 16 33 k) (nI p)
        rw [← hse, hsel]
        rw [← mH_id (M := k3 (k3 (k3 (k3 (k3 (k3 (k3 (k3 (k3 M 3 0 0 0) 16 2 p (K 10 0 p - K 5 1 k)) 13 32 k 98) 16 10 c (-1)) 16 34 k (nI p)) 16 36 k (nI ns)) 3 37 0 (nI (ns + 1))) 3 3 0 (M 3 3 0 + (K 5 1 k + 9) / 10)) 16 2 q (va_up (M 16 2) p (K 10 0 p - K 5 1 k) q + (K 5 1 k - (K 5 1 k + 9) / 10))) (P := P) g2]
        refine mp_ok (by show P < 4000; omega) (by omega) ?_
        unfold wpX7_thrown
        refine ⟨rfl, fun _ => ?_, inv_mk ht hu hs (by omega) (by omega) (rr_buyF h ht hp hk ‹K 5 4 k = 111› hc hkc y2 hq hqs h45 w1 w2 w3)⟩
        show (K 4 0 (K 5 0 k).toNatClampNeg).toInt64 = _
        rw [hkc, nI_clamp (by omega), c0 c hc]
      · obtain ⟨d, hd, h45, hew⟩ : ∃ d, d < nd ∧ K 4 5 c = nI d ∧ ew d = 1 := by
          rcases (c3 c hc).2 with w | ⟨_, d3, w1, w2, w | w⟩
          · rw [w.1] at hw
            exact absurd hw (by decide)
          · exact absurd w.2 hst
          · exact ⟨d3, w1, w2, w.1⟩
        have h9 : M 16 9 c = nI d := by
          rcases (c3 c hc).2 with w | ⟨w0, _⟩
          · rw [w.1] at hw
            exact absurd hw (by decide)
          · rw [← w0]
            exact h45
        rw [h45]
        refine cl_sell73 (sl := sl) hO hk hC hc nc4 no4 hkc g1 g3 g4 g5 hP (c0 c hc) (by omega) y2 ns1 lc3 ns3 hslx (fun r2 y w1 w2 w3 => ⟨by show k < nO K; omega, ?_⟩)
        show (K 5 0 k).toNatClampNeg < nC K ∧ _
        refine ⟨by rw [hkc, nI_clamp (by omega)]; omega, ?_⟩
        refine mok (fun z => absurd ‹K 5 4 k = 111› z) (fun _ z => absurd z y2) (fun _ _ z => absurd y3 z) (fun _ _ _ => ⟨fun z => absurd hw z, fun _ => ?_⟩)
        rw [h9]
        unfold wX7_buy_186
        refine ⟨vp_in_nI (by omega) (by omega), ?_⟩
        rw [nI_clamp (n := k) (by omega)]
        show wpX7_posts _ _ _ (nI c) (M 16 33 k) (nI p)
        rw [← hse, hsel]
        rw [← mH_id (M := k3 (k3 (k3 (k3 (k3 (k3 (k3 (k3 M 3 0 0 0) 16 2 p (K 10 0 p - K 5 1 k)) 13 32 k 98) 16 10 c (-1)) 16 34 k (nI p)) 16 36 k (nI ns)) 3 37 0 (nI (ns + 1))) 16 35 k (nI d)) (P := P) g2]
        refine mp_ok (by show P < 4000; omega) (by omega) ?_
        unfold wpX7_thrown
        refine ⟨rfl, fun _ => ?_, inv_mk ht hu hs (by omega) (by omega) (rr_buyW h ht hp hk ‹K 5 4 k = 111› hc hkc y2 hd hw h45 hew w1 w2 w3)⟩
        show (K 4 0 (K 5 0 k).toNatClampNeg).toInt64 = _
        rw [hkc, nI_clamp (by omega), c0 c hc]
    · unfold wpX7_buy
      refine ms_player (n := np) np2 np3 (fun _ _ _ => ⟨fun q => absurd q (by decide), fun _ => ?_⟩) (fun z => absurd (in_nI hp (by omega)) z)
      refine ms_offer (n := no) no3 no4 (fun j hj e => absurd (by rw [e]; exact in_nI hj (by omega)) z) (fun _ => ⟨fun q => absurd rfl q, fun _ => fin 1 (by decide)⟩)
  · unfold wpX7_buy
    refine ms_player (n := np) np2 np3 (fun j hj e => absurd (by rw [e, np1]; exact in_nI hj (by omega)) z) (fun _ => ⟨fun _ => fin 1 (by decide), fun q => absurd rfl q⟩)
