/-! close: the reference's loop, the relation -/
def vF (M K : KS) (d i : Nat) : Nat → Int32 := fun k => if k < i ∧ K 5 5 k = nI d then -1 else M 16 35 k
def dF (M K : KS) (d i : Nat) : Nat → Int32 := fun p => M 16 2 p + sumI (fun k => fCo K d p k) i
def mQ (M K : KS) (d i : Nat) : KS := kr (k3 (kr M 16 35 (vF M K d i)) 3 3 0 (M 3 3 0 + sumI (fFe K d) i)) 16 2 (dF M K d i)
theorem mQ_0 (M K : KS) (d : Nat) : mQ M K d 0 = M := by
  have e : dF M K d 0 = M 16 2 := funext fun p => Int32.add_zero _
  have e2 : vF M K d 0 = M 16 35 := funext fun k => by
    unfold vF
    rw [if_neg (fun z => Nat.not_lt_zero k z.1)]
  unfold mQ
  rw [e, e2, kr_id, show M 3 3 0 + sumI (fFe K d) 0 = M 3 3 0 from Int32.add_zero _, k3_id, kr_id]
theorem fsum {K : KS} {d no : Nat} (h : ∀ k, k < no → ∃ x, x ≤ 999 ∧ K 5 1 k = nI x) (hno : no ≤ 60) : ∀ i, i ≤ no → 0 ≤ (sumI (fPr K d) i).toInt ∧ (sumI (fPr K d) i).toInt ≤ 999 * (i : Int) := by
  intro i
  induction i with
  | zero =>
    intro _
    show 0 ≤ (0 : Int32).toInt ∧ (0 : Int32).toInt ≤ 999 * ((0 : Nat) : Int)
    decide
  | succ i ih =>
    intro hi
    obtain ⟨a, b⟩ := ih (by omega)
    show 0 ≤ (sumI (fPr K d) i + fPr K d i).toInt ∧ (sumI (fPr K d) i + fPr K d i).toInt ≤ _
    obtain ⟨x, hx, hx2⟩ := h i (by omega)
    have hf : ∃ y : Nat, y ≤ 999 ∧ (fPr K d i).toInt = (y : Int) := by
      unfold fPr
      by_cases q : K 5 5 i = nI d
      · rw [if_pos q]
        exact ⟨x, hx, by rw [hx2]; exact nI_toInt (by omega)⟩
      · rw [if_neg q]
        exact ⟨0, by omega, rfl⟩
    obtain ⟨y, hy, hy2⟩ := hf
    rw [add_small rfl hy2 (by omega) (by omega)]
    omega
theorem sumI_one {f g : Nat → Int32} {n q : Nat} {x : Int32} (hq : q < n) (h : ∀ p, p < n → g p = if p = q then f p + x else f p) : sumI g n = sumI f n + x := by
  rw [sumI_cong (f := g) (g := va_up f q (f q + x)) (fun p hp => by
    rw [h p hp, up_if]
    by_cases w : p = q
    · rw [if_pos w, if_pos w, w]
    · rw [if_neg w, if_neg w]), sumI_up _ hq]
  grind
theorem sum5 (A F O P S d0 fee pr : Int32) (h : A + F + (O - P) + S = d0) : A + (F + fee) + (O - (P + pr)) + (S + (pr - fee)) = d0 := by
  subst h
  grind
theorem cl_sd {K : KS} {d ns np : Nat} {sl : Nat → Nat} (hnp : np ≤ 6) (h4 : ∀ j, j < ns → ∃ q, q < np ∧ K 5 2 (sl j) = nI q) (sd0 : K 0 3 0 + K 0 4 0 + sumI (K 10 0) np = K 0 2 0) : ∀ j, j ≤ ns → K 0 3 0 + sumI (fun i => fFe K d (sl i)) j + (K 0 4 0 - sumI (fun i => fPr K d (sl i)) j) + sumI (fun p => K 10 0 p + sumI (fun i => fCo K d p (sl i)) j) np = K 0 2 0 := by
  intro j
  induction j with
  | zero =>
    intro _
    show K 0 3 0 + 0 + (K 0 4 0 - 0) + sumI (fun p => K 10 0 p + 0) np = _
    rw [sumI_cong (f := fun p => K 10 0 p + 0) (g := K 10 0) (fun i _ => Int32.add_zero _), ← sd0, Int32.add_zero, Int32.sub_zero]
  | succ j ih =>
    intro hj
    have hi := ih (by omega)
    obtain ⟨q, hq, hqs⟩ := h4 j (by omega)
    show K 0 3 0 + (sumI (fun i => fFe K d (sl i)) j + fFe K d (sl j)) + (K 0 4 0 - (sumI (fun i => fPr K d (sl i)) j + fPr K d (sl j))) + sumI (fun p => K 10 0 p + (sumI (fun i => fCo K d p (sl i)) j + fCo K d p (sl j))) np = _
    by_cases z : K 5 5 (sl j) = nI d
    · have e1 : fFe K d (sl j) = (K 5 1 (sl j) + 9) / 10 := by unfold fFe; rw [if_pos z]
      have e2 : fPr K d (sl j) = K 5 1 (sl j) := by unfold fPr; rw [if_pos z]
      rw [sumI_one (f := fun p => K 10 0 p + sumI (fun i => fCo K d p (sl i)) j) (g := fun p => K 10 0 p + (sumI (fun i => fCo K d p (sl i)) j + fCo K d p (sl j))) (x := K 5 1 (sl j) - (K 5 1 (sl j) + 9) / 10) hq (fun p hp => by
        show K 10 0 p + (sumI (fun i => fCo K d p (sl i)) j + fCo K d p (sl j)) = if p = q then K 10 0 p + sumI (fun i => fCo K d p (sl i)) j + (K 5 1 (sl j) - (K 5 1 (sl j) + 9) / 10) else K 10 0 p + sumI (fun i => fCo K d p (sl i)) j
        by_cases w : p = q
        · rw [if_pos w, show fCo K d p (sl j) = K 5 1 (sl j) - (K 5 1 (sl j) + 9) / 10 by unfold fCo; rw [if_pos ⟨z, by rw [hqs, nI_clamp (by omega), w]⟩], Int32.add_assoc]
        · rw [if_neg w, show fCo K d p (sl j) = 0 by unfold fCo; rw [if_neg (fun v => w (by rw [← v.2, hqs, nI_clamp (by omega)]))], Int32.add_zero]), e1, e2]
      exact sum5 _ _ _ _ _ _ _ _ hi
    · have e1 : fFe K d (sl j) = 0 := by unfold fFe; rw [if_neg z]
      have e2 : fPr K d (sl j) = 0 := by unfold fPr; rw [if_neg z]
      rw [sumI_cong (f := fun p => K 10 0 p + (sumI (fun i => fCo K d p (sl i)) j + fCo K d p (sl j))) (g := fun p => K 10 0 p + sumI (fun i => fCo K d p (sl i)) j) (fun p hp => by
        show K 10 0 p + (sumI (fun i => fCo K d p (sl i)) j + fCo K d p (sl j)) = K 10 0 p + sumI (fun i => fCo K d p (sl i)) j
        rw [show fCo K d p (sl j) = 0 by unfold fCo; rw [if_neg (fun v => z v.1)], Int32.add_zero]), e1, e2, Int32.add_zero, Int32.add_zero]
      exact hi
theorem rr_close {t np nc nd no ns P r : Nat} {cn sn dp ew go bl sl : Nat → Nat} {sk : Nat → Nat → Nat} {K M : KS} {ap : Int64} {d : Nat} (h : RR t t np nc nd no ns P r cn sn dp ew ew go bl sl sk K M ap) (ht : t < 512) (hd : d < nd) (hew : ew d = 1) : RR (t+1) (t+1) np nc nd no ns P r cn sn dp (va_up ew d 2) (va_up ew d 2) go bl sl sk (kP (kr (kr (k3 K 6 2 d 102) 4 3 (stF (sk (2 * d + 1)) 45 0 (cn (2 * d + 1)) (stF (sk (2 * d)) 45 0 (cn (2 * d)) (K 4 3)))) 4 5 (stF (sk (2 * d + 1)) (-1) 0 (cn (2 * d + 1)) (stF (sk (2 * d)) (-1) 0 (cn (2 * d)) (K 4 5)))) d sl ns) (mQ (kr (k3 (k3 M 3 0 0 0) 13 16 d 102) 13 8 (fD (K 4 5) (nI d) (M 13 8) nc)) K d no) ((K 0 4 0 - sumI (fPr K d) no).toInt64) := by
  have hx := rr_up (Nat.le_succ t) (Nat.le_succ t) h
  have hab0 := rx_ab h
  obtain ⟨np1, np2, np3, nc1, nc2, nc3, nc4, nd1, nd2, nd3, nd4, no1, no2, no3, no4, ns1, ns2, ns3, lc0, lc1, lc2, lc3, l0, l1, l2, pl, sd, hs_, av, ab, c0, c1, c2, c3, c4, c6, c7, g1, g2, g3, g4, g5, g6, g7, g8, g9, d1, d2, d3, d4, d5, d6, dt, d7, d8, d9, d10, d11, d12, d13, d14, z0, n1, n0, n2, n5, n6, o1, o2, o3, o4, o5, o6, o7, ow, o8, o9⟩ := hx
  obtain ⟨G3, hG3⟩ : ∃ f, f = stF (sk (2 * d + 1)) 45 0 (cn (2 * d + 1)) (stF (sk (2 * d)) 45 0 (cn (2 * d)) (K 4 3)) := ⟨_, rfl⟩
  obtain ⟨G5, hG5⟩ : ∃ f, f = stF (sk (2 * d + 1)) (-1) 0 (cn (2 * d + 1)) (stF (sk (2 * d)) (-1) 0 (cn (2 * d)) (K 4 5)) := ⟨_, rfl⟩
  rw [← hG3, ← hG5]
  have hq2 : ew d ≠ 2 := by omega
  have G3_in : ∀ c, c < nc → K 4 5 c = nI d → G3 c = 45 := fun c hc q => by
    obtain ⟨s, w1, i, w2, w3⟩ := c6 c hc d hd q
    rw [hG3]
    rcases w1 with w1 | w1
    · by_cases z : ∃ j, 0 ≤ j ∧ j < 0 + cn (2 * d + 1) ∧ sk (2 * d + 1) j = c
      · exact stF_in _ _ _ _ z
      · rw [stF_out _ _ _ _ (fun j a b e => z ⟨j, a, b, e⟩)]
        exact stF_in _ _ _ _ ⟨i, by omega, by rw [← w1]; omega, by rw [← w1]; exact w3⟩
    · exact stF_in _ _ _ _ ⟨i, by omega, by rw [← w1]; omega, by rw [← w1]; exact w3⟩
  have G5_in : ∀ c, c < nc → K 4 5 c = nI d → G5 c = -1 := fun c hc q => by
    obtain ⟨s, w1, i, w2, w3⟩ := c6 c hc d hd q
    rw [hG5]
    rcases w1 with w1 | w1
    · by_cases z : ∃ j, 0 ≤ j ∧ j < 0 + cn (2 * d + 1) ∧ sk (2 * d + 1) j = c
      · exact stF_in _ _ _ _ z
      · rw [stF_out _ _ _ _ (fun j a b e => z ⟨j, a, b, e⟩)]
        exact stF_in _ _ _ _ ⟨i, by omega, by rw [← w1]; omega, by rw [← w1]; exact w3⟩
    · exact stF_in _ _ _ _ ⟨i, by omega, by rw [← w1]; omega, by rw [← w1]; exact w3⟩
  have hnl : ∀ c, ¬ K 4 5 c = nI d → ∀ s, (s = 2 * d ∨ s = 2 * d + 1) → ∀ j, j < cn s → sk s j ≠ c := fun c q s hs j hj e => q (by rw [← e]; exact d12 d hd hq2 s hs j hj)
  have G3_out : ∀ c, ¬ K 4 5 c = nI d → G3 c = K 4 3 c := fun c q => by
    rw [hG3, stF_out _ _ _ _ (fun j _ b => hnl c q _ (Or.inr rfl) j (by omega)), stF_out _ _ _ _ (fun j _ b => hnl c q _ (Or.inl rfl) j (by omega))]
  have G5_out : ∀ c, ¬ K 4 5 c = nI d → G5 c = K 4 5 c := fun c q => by
    rw [hG5, stF_out _ _ _ _ (fun j _ b => hnl c q _ (Or.inr rfl) j (by omega)), stF_out _ _ _ _ (fun j _ b => hnl c q _ (Or.inl rfl) j (by omega))]
  obtain ⟨K1, hK1⟩ : ∃ k, k = kr (kr (k3 K 6 2 d 102) 4 3 G3) 4 5 G5 := ⟨_, rfl⟩
  have e55 : K1 5 5 = K 5 5 := by rw [hK1]; rfl
  have hin : ∀ i j, i < ns → j < ns → sl i = sl j → i = j := fun i j hi hj q => by
    have w1 := (o8 i hi).2.2.1
    have w2 := (o8 j hj).2.2.1
    rw [q] at w1
    exact (nI_eq (by omega) (by omega)).mp (w1.symm.trans w2)
  have hsup : ∀ k, k < no → K 5 5 k = nI d → ∃ j, j < ns ∧ sl j = k := fun k hk q => by
    rcases o6 k hk with w | ⟨w, _⟩
    · rw [w] at q
      exact absurd q.symm (nI_neg1 (by omega))
    · exact (o5 k hk w).2.2.2.2
  have eP : sumI (fun i => fPr K1 d (sl i)) ns = sumI (fPr K d) no := by
    have : (fun i => fPr K1 d (sl i)) = fun i => fPr K d (sl i) := by rw [hK1]; rfl
    rw [this]
    refine sum_re ns no (fPr K d) sl (fun j hj => (o8 j hj).2.1) hin (fun k hk hn => ?_)
    unfold fPr
    rw [if_neg (fun q => by obtain ⟨j, a, b⟩ := hsup k hk q; exact hn j a b)]
  have eF : sumI (fun i => fFe K1 d (sl i)) ns = sumI (fFe K d) no := by
    have : (fun i => fFe K1 d (sl i)) = fun i => fFe K d (sl i) := by rw [hK1]; rfl
    rw [this]
    refine sum_re ns no (fFe K d) sl (fun j hj => (o8 j hj).2.1) hin (fun k hk hn => ?_)
    unfold fFe
    rw [if_neg (fun q => by obtain ⟨j, a, b⟩ := hsup k hk q; exact hn j a b)]
  have eC : ∀ p, sumI (fun i => fCo K1 d p (sl i)) ns = sumI (fun k => fCo K d p k) no := fun p => by
    have : (fun i => fCo K1 d p (sl i)) = fun i => fCo K d p (sl i) := by rw [hK1]; rfl
    rw [this]
    refine sum_re ns no (fun k => fCo K d p k) sl (fun j hj => (o8 j hj).2.1) hin (fun k hk hn => ?_)
    show fCo K d p k = 0
    unfold fCo
    rw [if_neg (fun q => by obtain ⟨j, a, b⟩ := hsup k hk q.1; exact hn j a b)]
  have hW1 : ∀ k, k < no → K 5 5 k = nI d → wF K1 d sl ns k = -1 := fun k hk q => wF_hit (by rw [e55]; exact q) ns (hsup k hk q)
  have hW2 : ∀ k, ¬ K 5 5 k = nI d → wF K1 d sl ns k = K 5 5 k := fun k q => by
    rw [wF_not (by rw [e55]; exact q) ns, e55]
  have hew' : ∀ x, va_up ew d 2 x = if x = d then 2 else ew x := fun _ => rfl
  have hsd := cl_sd (sl := sl) (d := d) np3 (fun j hj => (o4 (sl j) (o8 j hj).2.1).2) sd
  have hfs := fsum (K := K) (d := d) (fun k hk => by obtain ⟨_, x, _, b, c⟩ := o2 k hk; exact ⟨x, b, c⟩) no4 no (Nat.le_refl no)
  rw [show kr (kr (k3 K 6 2 d 102) 4 3 G3) 4 5 G5 = K1 from hK1.symm]
  have k45 : (kP K1 d sl ns) 4 5 = G5 := by rw [hK1]; rfl
  have k43 : (kP K1 d sl ns) 4 3 = G3 := by rw [hK1]; rfl
  have k55 : (kP K1 d sl ns) 5 5 = wF K1 d sl ns := rfl
  have k_6_3 : (kP K1 d sl ns) 6 3 = K 6 3 := by rw [hK1]; rfl
  have k_7_0 : (kP K1 d sl ns) 7 0 = K 7 0 := by rw [hK1]; rfl
  have k_7_1 : (kP K1 d sl ns) 7 1 = K 7 1 := by rw [hK1]; rfl
  have k_6_4 : (kP K1 d sl ns) 6 4 = K 6 4 := by rw [hK1]; rfl
  have k_6_5 : (kP K1 d sl ns) 6 5 = K 6 5 := by rw [hK1]; rfl
  have k_6_7 : (kP K1 d sl ns) 6 7 = K 6 7 := by rw [hK1]; rfl
  have k_4_2 : (kP K1 d sl ns) 4 2 = K 4 2 := by rw [hK1]; rfl
  have k_5_4 : (kP K1 d sl ns) 5 4 = K 5 4 := by rw [hK1]; rfl
  have k_5_3 : (kP K1 d sl ns) 5 3 = K 5 3 := by rw [hK1]; rfl
  have k_5_2 : (kP K1 d sl ns) 5 2 = K 5 2 := by rw [hK1]; rfl
  have k_5_0 : (kP K1 d sl ns) 5 0 = K 5 0 := by rw [hK1]; rfl
  have k_18 : (kP K1 d sl ns) 18 = K 18 := by rw [hK1]; rfl
  rw [hK1]
  unfold RR
  refine ⟨np1, np2, np3, nc1, nc2, nc3, nc4, nd1, nd2, nd3, nd4, no1, no2, no3, no4, ns1, ns2, ns3, lc0, lc1, lc2, lc3, l0, l1, l2, ?q_pl, ?q_sd, ?q_hs_, ?q_av, ?q_ab, c0, c1, c2, ?q_c3, c4, ?q_c6, ?q_c7, g1, g2, g3, g4, g5, g6, g7, g8, g9, d1, ?q_d2, d3, ?q_d4, ?q_d5, ?q_d6, dt, d7, d8, d9, ?q_d10, d11, ?q_d12, ?q_d13, d14, z0, n1, n0, n2, n5, n6, o1, o2, o3, o4, ?q_o5, ?q_o6, ?q_o7, ?q_ow, o8, ?q_o9⟩
  all_goals rw [← hK1]
  case q_pl =>
    intro p hp
    show K1 10 0 p + sumI (fun i => fCo K1 d p (sl i)) ns = M 16 2 p + sumI (fun k => fCo K d p k) no
    rw [eC p, hK1]
    show K 10 0 p + _ = _
    rw [pl p hp]
  case q_sd =>
    have := hsd ns (Nat.le_refl ns)
    rw [hK1]
    exact this
  case q_hs_ =>
    show K1 0 3 0 + sumI (fun i => fFe K1 d (sl i)) ns = M 3 3 0 + sumI (fFe K d) no
    rw [eF, hK1]
    show K 0 3 0 + _ = _
    rw [hs_]
  case q_av =>
    show (K1 0 4 0 - sumI (fun i => fPr K1 d (sl i)) ns).toInt64 = _
    rw [eP, hK1]
    rfl
  case q_ab =>
    show _ ≤ (K1 0 4 0 - sumI (fun i => fPr K1 d (sl i)) ns).toInt ∧ (K1 0 4 0 - sumI (fun i => fPr K1 d (sl i)) ns).toInt ≤ _
    rw [eP, hK1]
    show _ ≤ (K 0 4 0 - sumI (fPr K d) no).toInt ∧ (K 0 4 0 - sumI (fPr K d) no).toInt ≤ _
    rw [sub_small rfl rfl (by omega) (by omega)]
    omega
  case q_c3 =>
    intro c hc
    obtain ⟨y1, y2⟩ := c3 c hc
    show (kP K1 d sl ns) 4 3 c = fD (K 4 5) (nI d) (M 13 8) nc c ∧ (((kP K1 d sl ns) 4 3 c = 45 ∧ (kP K1 d sl ns) 4 5 c = -1) ∨ ((kP K1 d sl ns) 4 5 c = M 16 9 c ∧ ∃ d2, d2 < nd ∧ (kP K1 d sl ns) 4 5 c = nI d2 ∧ _))
    rw [k43, k45]
    unfold fD
    by_cases z : K 4 5 c = nI d
    · rw [G3_in c hc z, G5_in c hc z, if_pos ⟨hc, z⟩]
      exact ⟨rfl, Or.inl ⟨rfl, rfl⟩⟩
    · rw [G3_out c z, G5_out c z, if_neg (fun w => z w.2)]
      refine ⟨y1, y2.imp id (fun w => ⟨w.1, ?_⟩)⟩
      obtain ⟨d2_, w1, w2, w3⟩ := w.2
      refine ⟨d2_, w1, w2, ?_⟩
      rw [hew', if_neg (fun v => z (by rw [w2, v]))]
      exact w3
  case q_c6 =>
    intro c hc d2_ hd2 q
    rw [k45] at q
    by_cases z : K 4 5 c = nI d
    · rw [G5_in c hc z] at q
      exact absurd q.symm (nI_neg1 (by omega))
    · rw [G5_out c z] at q
      exact c6 c hc d2_ hd2 q
  case q_c7 =>
    intro d2_ hd2 q
    rw [hew'] at q
    have hne : d2_ ≠ d := fun z => by rw [if_pos z] at q; exact q rfl
    rw [if_neg hne] at q
    rw [k45, cntE_cong (g := K 4 5) (w := nI d2_) (fun c hc => by
      by_cases z : K 4 5 c = nI d
      · rw [G5_in c hc z, z]
        exact ⟨fun w => absurd w.symm (nI_neg1 (by omega)), fun w => absurd ((nI_eq (by omega) (by omega)).mp w).symm hne⟩
      · rw [G5_out c z])]
    exact c7 d2_ hd2 q
  case q_d2 =>
    intro d2_ hd2
    obtain ⟨y1, y2, y3, y4, y5⟩ := d2 d2_ hd2
    have e6 : (kP K1 d sl ns) 6 2 d2_ = if d2_ = d then 102 else K 6 2 d2_ := by rw [hK1]; rfl
    show (kP K1 d sl ns) 6 2 d2_ = va_up (M 13 16) d 102 d2_ ∧ _
    rw [e6, up_if, hew']
    by_cases z : d2_ = d
    · rw [if_pos z, if_pos z, if_pos z]
      refine ⟨rfl, rfl, by omega, y4, fun _ => y5 ?_⟩
      rw [z]
      omega
    · rw [if_neg z, if_neg z, if_neg z]
      exact ⟨y1, y2, y3, y4, y5⟩
  case q_d4 =>
    intro d2_ hd2 q
    rw [k_6_3, k_7_0]
    refine d4 d2_ hd2 ?_
    rw [hew'] at q
    by_cases z : d2_ = d
    · rw [z]
      omega
    · rw [if_neg z] at q
      exact q
  case q_d5 =>
    intro d2_ hd2 q
    rw [hew'] at q
    have hne : d2_ ≠ d := fun z => by rw [if_pos z] at q; omega
    rw [if_neg hne] at q
    rw [k_7_1, k_6_4]
    exact d5 d2_ hd2 q
  case q_d6 =>
    intro d2_ hd2 q
    rw [hew'] at q
    have hne : d2_ ≠ d := fun z => by rw [if_pos z] at q; omega
    rw [if_neg hne] at q
    obtain ⟨τ, w1, w2, w3, w4⟩ := d6 d2_ hd2 q
    refine ⟨τ, w1, ?_, w3, ?_⟩
    · rw [k_6_5]
      exact w2
    · rw [k_18]
      exact w4
  case q_d10 =>
    intro d2_ hd2
    obtain ⟨w1, w2, w3, w4⟩ := d10 d2_ hd2
    rw [k_6_7]
    refine ⟨w1, w2, w3, fun q => w4 ?_⟩
    rw [hew'] at q
    by_cases z : d2_ = d
    · rw [z]
      exact Or.inl (by omega)
    · rw [if_neg z] at q
      exact q
  case q_d12 =>
    intro d2_ hd2 q s hs2 i hi
    rw [hew'] at q
    have hne : d2_ ≠ d := fun z => by rw [if_pos z] at q; exact q rfl
    rw [if_neg hne] at q
    have w := d12 d2_ hd2 q s hs2 i hi
    rw [k45, G5_out _ (fun z => hne ((nI_eq (by omega) (by omega)).mp (w.symm.trans z)))]
    exact w
  case q_d13 =>
    intro d2_ hd2 q s hs2 i hi
    rw [hew'] at q
    have hne : d2_ ≠ d := fun z => by rw [if_pos z] at q; omega
    rw [if_neg hne] at q
    rw [k_4_2, k_7_0]
    exact d13 d2_ hd2 q s hs2 i hi
  case q_o5 =>
    intro k hk q
    rw [k_5_4] at q
    obtain ⟨y1, y2, y3, y4, y5⟩ := o5 k hk q
    rw [k_5_3, k_5_2, k55]
    refine ⟨y1, y2, y3, ?_, y5⟩
    show _ = (if k < no ∧ K 5 5 k = nI d then -1 else M 16 35 k)
    by_cases z : K 5 5 k = nI d
    · rw [hW1 k hk z, if_pos ⟨hk, z⟩]
    · rw [hW2 k z, if_neg (fun w => z w.2)]
      exact y4
  case q_o6 =>
    intro k hk
    rw [k55]
    by_cases z : K 5 5 k = nI d
    · exact Or.inl (hW1 k hk z)
    · rw [hW2 k z]
      rcases o6 k hk with y | ⟨y1, d2_, y2, y3, y4, c, y5, y6, y7⟩
      · exact Or.inl y
      · have hne : d2_ ≠ d := fun w => z (by rw [y3, w])
        refine Or.inr ⟨?_, d2_, y2, y3, ?_, c, y5, ?_, ?_⟩
        · rw [k_5_4]
          exact y1
        · rw [hew', if_neg hne]
          exact y4
        · rw [k_5_0]
          exact y6
        · rw [k45, G5_out c (fun w => hne ((nI_eq (by omega) (by omega)).mp (y7.symm.trans w)))]
          exact y7
  case q_o7 =>
    intro k hk q
    rw [k_5_4] at q
    obtain ⟨c, y1, y2, y3, y4, y5⟩ := o7 k hk q
    refine ⟨c, y1, ?_, y3, ?_, ?_⟩
    · rw [k_5_0]
      exact y2
    · rw [k_5_2, k_4_2]
      exact y4
    · rw [k43]
      by_cases z : K 4 5 c = nI d
      · rw [G3_in c y1 z]
        decide
      · rw [G3_out c z]
        exact y5
  case q_ow =>
    intro k hk q
    rw [k_5_4] at q
    show (if k < no ∧ K 5 5 k = nI d then -1 else M 16 35 k) = -1
    by_cases z : k < no ∧ K 5 5 k = nI d
    · rw [if_pos z]
    · rw [if_neg z]
      exact ow k hk q
  case q_o9 =>
    intro d2_ hd2 q
    rw [hew'] at q
    have hne : d2_ ≠ d := fun z => by rw [if_pos z] at q; omega
    rw [if_neg hne] at q
    rw [k55, k_5_0, k_5_3, k_5_2, k_6_3, k_7_0, k_4_2]
    refine ch_gen (D := fun _ => True) (fun o o2 ho hB s hs2 i hi => ?_) ns (fun j hj => ⟨?_, fun _ => ⟨rfl, rfl, rfl, trivial⟩⟩) (K 4 2) _ (fun _ _ => rfl) (o9 d2_ hd2 q)
    · rw [ho _ trivial]
      exact hB s hs2 i hi
    · by_cases z : K 5 5 (sl j) = nI d
      · rw [hW1 _ (o8 j hj).2.1 z, z]
        exact ⟨fun w => absurd w.symm (nI_neg1 (by omega)), fun w => absurd ((nI_eq (by omega) (by omega)).mp w).symm hne⟩
      · rw [hW2 _ z]

