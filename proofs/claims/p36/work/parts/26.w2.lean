/-! Lists that grow; withdraw, offer. -/
theorem lAdd_82 {K : KS} {n m x : Nat} (h : m ≠ n) : lAdd K n x 8 2 m = K 8 2 m := by
  unfold lAdd
  rw [k3_if, if_neg (by omega), k3_if, if_neg (by omega), k3_if, if_neg (by omega), k3_if, if_neg (by omega)]
theorem lAdd_83 {K : KS} {n m x : Nat} (h : m ≠ n) : lAdd K n x 8 3 m = K 8 3 m := by
  unfold lAdd
  rw [k3_if, if_neg (by omega), k3_if, if_neg (by omega), k3_if, if_neg (by omega), k3_if, if_neg (by omega)]
theorem lAdd_9 {K : KS} {n m x : Nat} (h : m ≠ n) : lAdd K n x 9 m = K 9 m := by
  funext i
  unfold lAdd
  rw [k3_if, if_neg (by omega), k3_if, if_neg (by omega), k3_if, if_neg (by omega), k3_if, if_neg (by omega)]
theorem lAdd_s2 {K : KS} {n x cnt : Nat} (h : K 8 2 n = nI cnt) : lAdd K n x 8 2 n = nI (cnt + 1) := by
  unfold lAdd
  rw [k3_if, if_pos ⟨rfl, rfl, rfl⟩, h, nI_1]
theorem lAdd_s3 {K : KS} {n x : Nat} : lAdd K n x 8 3 n = lCap (K 8 2 n) (K 8 3 n) := by
  unfold lAdd
  rw [k3_if, if_neg (by omega), k3_if, if_neg (by omega), k3_if, if_pos ⟨rfl, rfl, rfl⟩]
theorem lAdd_s9 {K : KS} {n x cnt : Nat} (h : K 8 2 n = nI cnt) (hc : cnt ≤ 1000) (i : Nat) : lAdd K n x 9 n i = if i = cnt then nI x else K 9 n i := by
  unfold lAdd
  rw [k3_a _ _ (by decide : ¬ 9 = 8), k3_row, h, nI_clamp (by omega), k3_a _ _ (by decide : ¬ 9 = 8), k3_a _ _ (by decide : ¬ 9 = 8)]
theorem lcp_add {x : Int32} {n : Nat} (h : lcp x n) (hn : n ≤ 1000) : lcp (lCap (nI n) x) (n + 1) := by
  obtain ⟨q, rfl, a1, a2, a3⟩ := h
  unfold lCap
  by_cases c : nI q = 0
  · rw [if_pos c]
    have : q = 0 := (nI_eq (a := q) (b := 0) (by omega) (by omega)).mp c
    exact ⟨10, rfl, by omega, by omega, Or.inr (by omega)⟩
  · rw [if_neg c]
    have h0 : q ≠ 0 := fun z => c (by rw [z]; rfl)
    by_cases c2 : nI n = nI q
    · rw [if_pos c2, nI_clamp (by omega)]
      have : n = q := (nI_eq (by omega) (by omega)).mp c2
      exact ⟨q + q / 2, rfl, by omega, by omega, Or.inr (by omega)⟩
    · rw [if_neg c2]
      have : n ≠ q := fun z => c2 (by rw [z])
      exact ⟨q, rfl, by omega, by omega, Or.inr (by omega)⟩
theorem ok_add {K : KS} {n cnt mc ms : Nat} (h1 : K 8 2 n = nI cnt) (h2 : lcp (K 8 3 n) cnt) (hc : cnt ≤ 100) (hm : 1 ≤ mc) (hs : 160 ≤ ms) (hl : ∀ j, j < cnt → lvK K (ek n) (K 9 n j).toNatClampNeg) : okAdd K n mc ms := by
  obtain ⟨q, e, a1, a2, a3⟩ := h2
  refine ⟨cnt, q, h1, e, a1, by omega, a3, fun z => ⟨hm, fun _ => by omega, fun _ => by omega, fun j hj => hl j (by omega)⟩⟩
-- k rows
theorem k_withdraw {t np nc nd no : Nat} {sn : Nat → Nat} {K : KS} {G : Int32 → KS → Prop} {p1 p2 p3 : Int32} (ht : t < 512) (hI : V36 t np nc nd no sn K) (hf : ∀ v : Int32, v < 0 → G v K) (hK : ∀ v K', 0 ≤ v → V36 (t+1) np nc nd no sn K' → SM K K' → G v K') : wpL_c23 G 2 12 K p1 p2 p3 := by
  obtain ⟨ns, P, r, cn, dp, ew, go, bl, sl, sk, M, ap, h⟩ := hI
  have nc2 := rx_nc2 h
  have nc3 := rx_nc3 h
  have nc4 := rx_nc4 h
  have no1 := rx_no1 h
  have no2 := rx_no2 h
  have no3 := rx_no3 h
  have no4 := rx_no4 h
  have lc2 := rx_lc2 h
  have l2 := rx_l2 h
  have o3 := rx_o3 h
  have o7 := rx_o7 h
  have c0 := rx_c0 h
  unfold wpL_c23 wpX6_withdraw
  refine ⟨1, 6, by omega, by omega, at_offer no1 no2 lc2 no4 l2 (fun k hk e => ?_) (fun _ => ⟨by omega, by omega, xI (hf _ (by decide))⟩)⟩
  · subst e
    have hO : k < nO K := by rw [nO_of no2 (by omega)]; exact hk
    refine ⟨hO, fun q => ?_, fun q => ⟨by omega, by omega, xU (hf _ (by decide))⟩⟩
    · obtain ⟨c, hc, f1, f2, f3, f4⟩ := o7 k hk q
      obtain ⟨cc, hcc, f5, f6⟩ := rx_o1 h k hk
      have ec : cc = c := (nI_eq (by omega) (by omega)).mp (f5.symm.trans f1)
      subst ec
      have w1 : (k3 K 5 4 k 103) 5 0 k = nI cc := f1
      have w3 : k3 (k3 K 5 4 k 103) 4 4 ((k3 K 5 4 k 103) 5 0 k).toNatClampNeg 0 = k3 (k3 K 5 4 k 103) 4 4 cc 0 := by rw [w1, nI_clamp (by omega)]
      have w2 : (k3 (k3 K 5 4 k 103) 4 4 cc 0) 5 0 k = nI cc := f1
      have hz : RR (t+1) (t+1) np nc nd no ns P r cn sn dp ew ew go bl sl sk (k3 (k3 K 5 4 k 103) 4 4 cc 0) (k3 (k3 (k3 M 3 0 0 0) 13 32 k 103) 16 10 cc (-1)) ap := by
        have hx := rr_up (Nat.le_succ t) (Nat.le_succ t) h
        obtain ⟨np1, np2, np3, nc1, nc2, nc3, nc4, nd1, nd2, nd3, nd4, no1, no2, no3, no4, ns1, ns2, ns3, lc0, lc1, lc2, lc3, l0, l1, l2, pl, sd, hs_, av, ab, c0, c1, c2, c3, c4, c6, c7, g1, g2, g3, g4, g5, g6, g7, g8, g9, d1, d2, d3, d4, d5, d6, dt, d7, d8, d9, d10, d11, d12, d13, d14, z0, n1, n0, n2, n5, n6, o1, o2, o3, o4, o5, o6, o7, ow, o8, o9⟩ := hx
        have e1 : ∀ i, k3 (k3 K 5 4 k 103) 4 4 cc 0 5 4 i = if i = k then 103 else K 5 4 i := fun _ => rfl
        have e2 : ∀ i, k3 (k3 (k3 M 3 0 0 0) 13 32 k 103) 16 10 cc (-1) 13 32 i = if i = k then 103 else M 13 32 i := fun _ => rfl
        have e3 : ∀ i, k3 (k3 K 5 4 k 103) 4 4 cc 0 4 4 i = if i = cc then 0 else K 4 4 i := fun _ => rfl
        have e4 : ∀ i, k3 (k3 (k3 M 3 0 0 0) 13 32 k 103) 16 10 cc (-1) 16 10 i = if i = cc then -1 else M 16 10 i := fun _ => rfl
        have e5 : cntE (k3 (k3 K 5 4 k 103) 4 4 cc 0 5 4) 98 no = cntE (K 5 4) 98 no := cntE_cong (fun i hi => by
          rw [e1]
          by_cases z : i = k
          · rw [if_pos z, z, q]
            decide
          · rw [if_neg z])
        unfold RR
        refine ⟨np1, np2, np3, nc1, nc2, nc3, nc4, nd1, nd2, nd3, nd4, no1, no2, no3, no4, ns1, ns2, ns3, lc0, lc1, lc2, lc3, l0, l1, l2, pl, sd, hs_, av, ab, c0, c1, c2, c3, ?q_c4, c6, c7, g1, g2, g3, g4, g5, g6, g7, ?q_g8, ?q_g9, d1, d2, d3, d4, d5, d6, dt, d7, d8, d9, d10, d11, d12, d13, d14, z0, n1, n0, n2, n5, n6, o1, o2, ?q_o3, o4, ?q_o5, ?q_o6, ?q_o7, ?q_ow, ?q_o8, o9⟩
        case q_c4 =>
          intro c hc3
          rw [e3, e4]
          by_cases z : c = cc
          · rw [if_pos z, if_pos z]
            exact Or.inl ⟨rfl, rfl⟩
          · rw [if_neg z, if_neg z]
            rcases c4 c hc3 with y | ⟨k2, y1, y2, y3, y4, y5⟩
            · exact Or.inl y
            · refine Or.inr ⟨k2, y1, y2, y3, y4, ?_⟩
              rw [e1, if_neg (fun z2 => z ?_)]
              · exact y5
              · rw [z2, f1] at y4
                exact ((nI_eq (by omega) (by omega)).mp y4).symm
        case q_g8 => rw [e5]; exact g8
        case q_g9 => rw [e5]; exact g9
        case q_o3 =>
          intro i hi
          rw [e1, e2]
          by_cases z : i = k
          · rw [if_pos z, if_pos z]
            exact ⟨rfl, Or.inr (Or.inr rfl)⟩
          · rw [if_neg z, if_neg z]
            exact o3 i hi
        case q_o5 =>
          intro i hi z2
          rw [e1] at z2
          by_cases z : i = k
          · rw [if_pos z] at z2
            exact absurd z2 (by decide)
          · rw [if_neg z] at z2
            exact o5 i hi z2
        case q_o6 =>
          intro i hi
          rcases o6 i hi with y | ⟨y1, y2⟩
          · exact Or.inl y
          · refine Or.inr ⟨?_, y2⟩
            rw [e1, if_neg (fun z => ?_)]
            · exact y1
            · rw [z, q] at y1
              exact absurd y1 (by decide)
        case q_o7 =>
          intro i hi z2
          rw [e1] at z2
          by_cases z : i = k
          · rw [if_pos z] at z2
            exact absurd z2 (by decide)
          · rw [if_neg z] at z2
            obtain ⟨c, y1, y2, y3, y4⟩ := o7 i hi z2
            refine ⟨c, y1, y2, ?_, y4⟩
            rw [e4, if_neg (fun z3 => z ?_)]
            · exact y3
            · rw [z3, f2] at y3
              exact ((nI_eq (by omega) (by omega)).mp y3).symm
        case q_ow =>
          intro i hi z2
          rw [e1] at z2
          by_cases z : i = k
          · rw [if_pos z] at z2
            exact absurd z2 (by decide)
          · rw [if_neg z] at z2
            exact ow i hi z2
        case q_o8 =>
          intro j hj
          obtain ⟨y1, y2, y3, y4⟩ := o8 j hj
          refine ⟨y1, y2, y3, ?_⟩
          rw [e1]
          by_cases z : sl j = k
          · rw [if_pos z]
            decide
          · rw [if_neg z]
            exact y4
      have hC : cc < nC K := by rw [nC_of nc2 (by omega)]; exact hc
      rw [w3, w2, w1, nI_clamp (by omega)]
      refine ⟨hC, hC, ?_⟩
      refine hK _ _ ?_ ⟨ns, P, r, cn, dp, ew, go, bl, sl, sk, _, ap, hz⟩ ⟨rfl, rfl, rfl⟩
      show (0 : Int32) ≤ K 4 0 cc
      rw [c0 cc hc]
      exact nI_pos' (by omega)
