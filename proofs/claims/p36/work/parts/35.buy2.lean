/-! buy, the call -/
theorem cl_addCoins {post : Unit → KS → Prop} {K : KS} {p : Nat} {v : Int32} (hp : p < 6) (h : post () (k3 K 10 0 p (K 10 0 p + v))) : wpX6_addCoins post K (nI p) v := by
  unfold wpX6_addCoins
  rw [nI_clamp (by omega)]
  exact ⟨fun q => absurd q (nI_pos (by omega)), fun _ => ⟨fun q => absurd q (nI_ge (a := p) (b := 6) hp (by omega)), fun _ => ⟨vp_in_nI hp (by omega), h⟩⟩⟩
theorem cl_sell73 {post : Unit → KS → Prop} {B : KS} {k c p P r no nc ns : Nat} {sl : Nat → Nat} (hO : nO B = no) (hk : k < no) (hC : nC B = nc) (hc : c < nc) (hnc : nc ≤ 40) (hno : no ≤ 60) (hkc : B 5 0 k = nI c) (g1 : B 1 1 0 = nI P) (g3 : B 1 5 0 = nI r) (g4 : rOK r) (g5 : 3 * P ≤ r) (hP : P ≤ 3994) (h0 : B 4 0 c = nI c) (hp6 : p < 6) (hne : B 4 2 c ≠ nI p) (ns1 : B 8 2 3 = nI ns) (lc3 : lcp (B 8 3 3) ns) (hns : ns ≤ no) (hsl : ∀ j, j < ns → B 9 3 j = nI (sl j) ∧ sl j < no) (hp : ∀ r2 y, rOK r2 → 3 * (P + 1) ≤ r2 → hRf y (hE c (B 4 2 c) (nI p) (P, B 11 0, B 4 2)) → post () (lAdd (kH B r2 y) 3 k)) : wX6_sell_73 post 5 13984 0 0 k (nI p) B := by
  unfold wX6_sell_73
  rw [hkc, nI_clamp (by omega)]
  have es : hS c (nI p) (P, B 11 0, B 4 2) = hE c (B 4 2 c) (nI p) (P, B 11 0, B 4 2) := by
    unfold hS
    rw [if_neg (fun z => z.elim (nI_neg1 (by omega)) hne)]
  have hg2 : 3 * (P + 1) ≤ r ∨ (1 ≤ 1 ∧ 2 * r ≤ 13824) := by
    unfold rOK at g4
    omega
  refine ⟨by omega, 1, 13824, by omega, by omega, ?_⟩
  have key := hand_ok (K := B) (y := (P, B 11 0, B 4 2)) (x := (P, B 11 0, B 4 2)) (r := r) (c := c) (nc := nc) (w := nI p) (mc := 1) (ms := 13824) (post := fun _ K11 => (k < nO K11) ∧ (∃ a13 a14 : Nat, (0 + 1) + a13 ≤ 5 ∧ (0 + 13824) + a14 ≤ 13984 ∧ okAdd K11 3 a13 a14 ∧ (post () (lAdd K11 3 k)))) ⟨rfl, fun _ _ => rfl, rfl⟩ g4 g5 (by show P < 4000; omega) hC hc h0 (nI_neg1 (by omega)) (Or.inr hg2) (fun r2 y2 q1 q2 _ q4 => ?_)
  · rw [kH_id g1 g3] at key
    exact key
  · rw [es] at q2 q4
    refine ⟨by show k < nO B; omega, 1, 160, by omega, by omega, ok_add (K := kH B r2 y2) (cnt := ns) ns1 lc3 (by omega) (by omega) (by omega) (fun j hj => ?_), hp r2 y2 q1 q2 q4⟩
    show (B 9 3 j).toNatClampNeg < nO B
    obtain ⟨v1, v2⟩ := hsl j hj
    rw [v1, nI_clamp (by omega), hO]
    exact v2
-- k rows
theorem k_buy {t np nc nd no : Nat} {sn : Nat → Nat} {K : KS} {G : Int32 → KS → Prop} {p1 p2 p3 : Int32} (ht : t < 512) (hI : V36 t np nc nd no sn K) (hf : ∀ v : Int32, v < 0 → G v K) (hK : ∀ K' p k c, p < np → p1 = nI p → c < nc → V36 (t+1) np nc nd no sn K' → K' 0 2 0 = K 0 2 0 → K' 4 2 c = nI p → (∃ x, 1 ≤ x ∧ x ≤ 999 ∧ K 5 1 k = nI x) → K 5 1 k ≤ K 10 0 p → ((K' 10 0 = va_up (K 10 0) p (K 10 0 p - K 5 1 k) ∧ K' 0 3 0 = K 0 3 0) ∨ ∃ q, q < np ∧ K' 10 0 = va_up (va_up (K 10 0) p (K 10 0 p - K 5 1 k)) q (va_up (K 10 0) p (K 10 0 p - K 5 1 k) q + (K 5 1 k - (K 5 1 k + 9) / 10)) ∧ K' 0 3 0 = K 0 3 0 + (K 5 1 k + 9) / 10) → G (nI c) K') : wpL_c24 G 50 14000 K p1 p2 p3 := by
  obtain ⟨ns, P, r, cn, dp, ew, go, bl, sl, sk, M, ap, h⟩ := hI
  have np1 := rx_np1 h
  have np2 := rx_np2 h
  have np3 := rx_np3 h
  have nc2 := rx_nc2 h
  have nc4 := rx_nc4 h
  have nd4 := rx_nd4 h
  have no1 := rx_no1 h
  have no2 := rx_no2 h
  have no3 := rx_no3 h
  have no4 := rx_no4 h
  have lc2 := rx_lc2 h
  have l2 := rx_l2 h
  have lc3 := rx_lc3 h
  have ns1 := rx_ns1 h
  have ns2 := rx_ns2 h
  have ns3 := rx_ns3 h
  have pl := rx_pl h
  have hs_ := rx_hs_ h
  have c0 := rx_c0 h
  have c2 := rx_c2 h
  have c3 := rx_c3 h
  have g1 := rx_g1 h
  have g2 := rx_g2 h
  have g3 := rx_g3 h
  have g4 := rx_g4 h
  have g5 := rx_g5 h
  have o1 := rx_o1 h
  have o2 := rx_o2 h
  have o3 := rx_o3 h
  have o4 := rx_o4 h
  have o6 := rx_o6 h
  have o7 := rx_o7 h
  have ow := rx_ow h
  have o8 := rx_o8 h
  have hC : nC K = nc := nC_of nc2 (by omega)
  have hO : nO K = no := nO_of no2 (by omega)
  have hP := rr_P h (by omega)
  unfold wpL_c24 wpX6_buy
  refine ⟨1, 6, by omega, by omega, nd_player (fun z => ?_) (fun _ => ⟨by omega, by omega, xI (hf _ (by decide))⟩)⟩
  · rw [np1] at z
    obtain ⟨p, hp, rfl⟩ := nI_inN (by omega) z.1 z.2
    refine ⟨1, 6, by omega, by omega, at_offer no1 no2 lc2 no4 l2 (fun k hk e => ?_) (fun _ => ⟨by omega, by omega, xI (hf _ (by decide))⟩)⟩
    · subst e
      obtain ⟨c, hc, hkc, hkm⟩ := o1 k hk
      obtain ⟨hpe, pr, pr1, pr2, pr3⟩ := o2 k hk
      obtain ⟨hse, q, hq, hqs⟩ := o4 k hk
      refine ⟨by omega, fun y => ⟨by omega, by omega, xU (hf _ (by decide))⟩, fun y => ?_⟩
      rw [hkc, nI_clamp (by omega)]
      refine ⟨by omega, fun y2 => ⟨vp_in_nI (by omega) (by omega), ?_⟩, fun y2 => ⟨by omega, by omega, xU (hf _ (by decide))⟩⟩
      rw [nI_clamp (by omega)]
      refine ⟨fun y3 => ⟨5, 13984, by omega, by omega, ?_⟩, fun y3 => ⟨by omega, by omega, xS (hf _ (by decide))⟩⟩
      obtain ⟨cx, _, hcx1, hof, hsel, hst⟩ := o7 k hk y
      have ecx : cx = c := (nI_eq (by omega) (by omega)).mp (hcx1.symm.trans hkc)
      rw [ecx] at hst hsel hof
      have hox3 : ∀ {B : KS} {r2 : Nat} (x : LXp), hRf x (hE c (K 4 2 c) (nI p) (P, K 11 0, K 4 2)) → (lAdd (kH B r2 x) 3 k) 4 2 c = nI p := fun {B r2} x hx => by
        show x.2.2 c = nI p
        rw [hx.2.2]
        show va_up (K 4 2) c (nI p) c = nI p
        rw [up_if, if_pos rfl]
      unfold wpX6_sell
      refine ⟨by omega, cl_addCoins (by omega) ?_⟩
      rw [← Int32.sub_eq_add_neg]
      have hslx : ∀ j, j < ns → K 9 3 j = nI (sl j) ∧ sl j < no := fun j hj => ⟨(o8 j hj).1, (o8 j hj).2.1⟩
      show k < nO K ∧ (K 5 0 k).toNatClampNeg < nC K ∧ (K 5 0 k).toNatClampNeg < nC K ∧ (¬ K 4 3 (K 5 0 k).toNatClampNeg = 119 → wpX6_paySeller _ (k3 (k3 (k3 (k3 K 10 0 p (K 10 0 p - K 5 1 k)) 5 4 k 98) 5 3 k (nI p)) 4 4 (K 5 0 k).toNatClampNeg 0) k) ∧ (K 4 3 (K 5 0 k).toNatClampNeg = 119 → wX6_sell_73 _ _ _ _ _ _ _ (k3 (k3 (k3 (k3 (k3 (k3 K 10 0 p (K 10 0 p - K 5 1 k)) 5 4 k 98) 5 3 k (nI p)) 4 4 (K 5 0 k).toNatClampNeg 0) 5 5 k (K 4 5 (K 5 0 k).toNatClampNeg)) 0 4 0 (K 0 4 0 + K 5 1 k)))
      rw [hkc, nI_clamp (n := c) (by omega)]
      refine ⟨by omega, by omega, by omega, fun hw => ?_, fun hw => ?_⟩
      · have h45 : K 4 3 c = 45 := by
          rcases (c3 c hc).2 with w | ⟨_, d3, _, _, w | w⟩
          · exact w.1
          · exact absurd w.2 hst
          · exact absurd w.2 hw
        unfold wpX6_paySeller
        refine ⟨by show k < nO K; omega, ?_⟩
        show wpX6_addCoins _ (k3 (k3 (k3 (k3 (k3 K 10 0 p (K 10 0 p - K 5 1 k)) 5 4 k 98) 5 3 k (nI p)) 4 4 c 0) 0 3 0 (K 0 3 0 + (K 5 1 k + 9) / 10)) (K 5 2 k) (K 5 1 k - (K 5 1 k + 9) / 10)
        rw [hqs]
        refine cl_addCoins (by omega) ?_
        refine cl_sell73 (sl := sl) hO hk hC hc nc4 no4 hkc g1 g3 g4 g5 hP (c0 c hc) (by omega) y2 ns1 lc3 ns3 hslx (fun r2 y w1 w2 w3 => ⟨by show k < nO K; omega, ?_⟩)
        show (K 5 0 k).toNatClampNeg < nC K ∧ _
        refine ⟨by rw [hkc, nI_clamp (by omega)]; omega, ?_⟩
        show G ((K 4 0) (K 5 0 k).toNatClampNeg) _
        rw [hkc, nI_clamp (by omega), c0 c hc]
        refine hK _ p k c hp rfl hc ⟨_, _, _, cn, dp, ew, go, bl, _, sk, _, _, rr_buyF h ht hp hk ‹K 5 4 k = 111› hc hkc y2 hq hqs h45 w1 w2 w3⟩ rfl ?_ ⟨pr, pr1, pr2, pr3⟩ y3 (Or.inr ⟨q, hq, rfl, rfl⟩)
        exact hox3 y w3
      · obtain ⟨d, hd, h45, hew⟩ : ∃ d, d < nd ∧ K 4 5 c = nI d ∧ ew d = 1 := by
          rcases (c3 c hc).2 with w | ⟨_, d3, w1, w2, w | w⟩
          · rw [w.1] at hw
            exact absurd hw (by decide)
          · exact absurd w.2 hst
          · exact ⟨d3, w1, w2, w.1⟩
        rw [h45]
        refine cl_sell73 (sl := sl) hO hk hC hc nc4 no4 hkc g1 g3 g4 g5 hP (c0 c hc) (by omega) y2 ns1 lc3 ns3 hslx (fun r2 y w1 w2 w3 => ⟨by show k < nO K; omega, ?_⟩)
        show (K 5 0 k).toNatClampNeg < nC K ∧ _
        refine ⟨by rw [hkc, nI_clamp (by omega)]; omega, ?_⟩
        show G ((K 4 0) (K 5 0 k).toNatClampNeg) _
        rw [hkc, nI_clamp (by omega), c0 c hc]
        refine hK _ p k c hp rfl hc ⟨_, _, _, cn, dp, ew, go, bl, _, sk, _, _, rr_buyW h ht hp hk ‹K 5 4 k = 111› hc hkc y2 hd hw h45 hew w1 w2 w3⟩ rfl ?_ ⟨pr, pr1, pr2, pr3⟩ y3 (Or.inl ⟨rfl, rfl⟩)
        exact hox3 y w3
