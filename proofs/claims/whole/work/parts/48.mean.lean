/-! The mean price and the share of won cards. -/
theorem dd_nn {a b : Int32} (hb : b ≠ 0) : Jvm.FP.Core.val64 (FP.ddiv (FP.i2d a) (FP.i2d b)) ≠ .nan := by
  obtain ⟨s, c, q, h1⟩ := Jvm.FP.Core.i2d_fin a
  obtain ⟨s2, c2, q2, h2⟩ := Jvm.FP.Core.i2d_fin b
  have h3 : c2 ≠ 0 := by
    intro z
    subst z
    exact Jvm.FP.Core.i2d_ne_zero hb ((Jvm.FP.Core.zero_bits2 _).mp ⟨s2, q2, h2⟩)
  have h4 : Jvm.FP.Core.val64 (FP.ddiv (FP.i2d a) (FP.i2d b)) = Jvm.FP.Core.quotient Jvm.FP.Core.b64 (Jvm.FP.Core.val64 (FP.i2d a)) (Jvm.FP.Core.val64 (FP.i2d b)) := Jvm.FP.Core.val64_ddiv _ _
  rw [h4]
  have h1' : Jvm.FP.Core.val64 (FP.i2d a) = .fin s c q := h1
  have h2' : Jvm.FP.Core.val64 (FP.i2d b) = .fin s2 c2 q2 := h2
  rw [h1', h2']
  show (if c2 = 0 then (if c = 0 then Jvm.FP.Core.Datum.nan else Jvm.FP.Core.Datum.inf (s != s2)) else Jvm.FP.Core.roundRatio Jvm.FP.Core.b64 (s != s2) c c2 (q - q2)) ≠ Jvm.FP.Core.Datum.nan
  rw [if_neg h3]
  exact Jvm.FP.Core.roundRatio_ne_nan _ _ _ _ _
theorem dd_vf {a b : Int32} (hb : b ≠ 0) : vf_n64 (FP.ddiv (FP.i2d a) (FP.i2d b)) := by
  have h := (Jvm.FP.Core.ne_nan _).mp (dd_nn (a := a) hb)
  unfold vf_n64
  rw [UInt64.le_iff_toNat_le, Jvm.FP.Core.mask_toNat]
  exact h
theorem dd_self {a b : Int32} (hb : b ≠ 0) : Op.cmpValue (FP.dcmp (FP.ddiv (FP.i2d a) (FP.i2d b)) (FP.ddiv (FP.i2d a) (FP.i2d b))) .l = 0 := by
  have h : FP.dcmp (FP.ddiv (FP.i2d a) (FP.i2d b)) (FP.ddiv (FP.i2d a) (FP.i2d b)) = some .eq := Jvm.FP.Core.dcmp_self (dd_nn (a := a) hb)
  rw [h]
  rfl
/-- the sum of the prices of the sales among the first i offers -/
def pS (K : KS) (i : Nat) : Int32 := sumI (fun k => if K 5 4 k = 98 then K 5 1 k else 0) i
theorem cl_mean {post : UInt64 → Prop} {px : String → Prop} {mc ms no : Nat} {K : KS} (hn : K 8 2 2 = nI no) (hb : no ≤ 60) (h2 : nO K = no) (hlc : lcp (K 8 3 2) no) (h5 : ∀ j, j < no → K 9 2 j = nI j) (hx : cntE (K 5 4) 98 no = 0 → 1 ≤ mc ∧ 6 ≤ ms ∧ px "java/lang/ArithmeticException") (hp : cntE (K 5 4) 98 no ≠ 0 → post (FP.ddiv (FP.i2d (pS K no)) (FP.i2d (nI (cntE (K 5 4) 98 no))))) : ∀ m i, i + m = no → wX6_meanPrice_6 post px mc ms (m + 1) 0 0 (pS K i) (nI (cntE (K 5 4) 98 i)) (nI i) K := by
  intro m
  induction m with
  | zero =>
    intro i hi
    have hi2 : i = no := by omega
    subst hi2
    have hc := cntE_le (K 5 4) 98 i
    unfold wX6_meanPrice_6
    refine ⟨fun _ => ⟨fun z => ?_, fun z => ?_⟩, fun z => absurd (by rw [hn]; exact nI_le (by omega) (by omega)) z⟩
    · exact ⟨dd_vf z, hp (fun w => z (by rw [w]; rfl))⟩
    · have e : cntE (K 5 4) 98 i = 0 := by
        refine Classical.byContradiction fun w => ?_
        exact nI_ne0 (by omega) (by omega) z
      have := hx e
      exact ⟨by omega, by omega, this.2.2⟩
  | succ m ih =>
    intro i hi
    unfold wX6_meanPrice_6
    rw [nI_clamp (n := i) (by omega), h5 i (by omega), nI_clamp (n := i) (by omega), h2]
    refine ⟨fun z => absurd (by rw [← hn]; exact z) (nI_ge (a := i) (b := no) (by omega) (by omega)), fun _ => ⟨ok_get hn hlc (by omega) (by omega), by omega, fun z => ?_, fun z x hx9 => ?_⟩⟩
    · have a := ih (i + 1) (by omega)
      unfold wX6_meanPrice_51
      rw [nI_1]
      have e1 : pS K (i + 1) = pS K i := by
        show pS K i + (if K 5 4 i = 98 then K 5 1 i else 0) = _
        rw [if_neg z, Int32.add_zero]
      have e2 : cntE (K 5 4) 98 (i + 1) = cntE (K 5 4) 98 i := by
        show cntE (K 5 4) 98 i + (if K 5 4 i = 98 then 1 else 0) = _
        rw [if_neg z, Nat.add_zero]
      rw [e1, e2] at a
      exact a
    · have a := ih (i + 1) (by omega)
      unfold wX6_meanPrice_51
      have e1 : pS K (i + 1) = x := by
        show pS K i + (if K 5 4 i = 98 then K 5 1 i else 0) = _
        rw [if_pos z, hx9]
      have e2 : nI (cntE (K 5 4) 98 (i + 1)) = nI (cntE (K 5 4) 98 i) + 1 := by
        rw [nI_1]
        show nI (cntE (K 5 4) 98 i + (if K 5 4 i = 98 then 1 else 0)) = _
        rw [if_pos z]
      rw [e1, e2, ← nI_1 (a := i)] at a
      exact a
theorem ml_mean {post : UInt64 → KS → Int64 → Prop} {no : Nat} {K M : KS} {ap : Int64} (hn : M 3 29 0 = nI no) (hb : no ≤ 60) (h3 : ∀ k, k < no → K 5 4 k = M 13 32 k) (h4 : ∀ k, k < no → K 5 1 k = M 16 31 k) (hx : cntE (K 5 4) 98 no = 0 → post FP.dconst0 (k3 M 3 0 0 1) ap) (hp : cntE (K 5 4) 98 no ≠ 0 → post (FP.ddiv (FP.i2d (pS K no)) (FP.i2d (nI (cntE (K 5 4) 98 no)))) (k3 M 3 0 0 0) ap) : ∀ m i, i + m = no → wX7_meanPrice_6 post (m + 1) (nI (cntE (K 5 4) 98 i)) (pS K i) (nI i) M ap := by
  intro m
  induction m with
  | zero =>
    intro i hi
    have hi2 : i = no := by omega
    subst hi2
    have hc := cntE_le (K 5 4) 98 i
    unfold wX7_meanPrice_6
    refine ⟨fun _ => ⟨fun z => ?_, fun z => ?_⟩, fun z => absurd (by rw [hn]; exact nI_le (by omega) (by omega)) z⟩
    · unfold wX7_meanPrice_73
      exact ⟨fun _ => ⟨dd_vf z, hp (fun w => z (by rw [w]; rfl))⟩, fun w => absurd (Int32.le_refl 0) w⟩
    · have e : cntE (K 5 4) 98 i = 0 := by
        refine Classical.byContradiction fun w => ?_
        exact nI_ne0 (by omega) (by omega) z
      unfold wX7_meanPrice_73
      exact ⟨fun w => absurd (show (1 : Int32) ≤ 0 from w) (by decide), fun _ => hx e⟩
  | succ m ih =>
    intro i hi
    unfold wX7_meanPrice_6
    rw [nI_clamp (n := i) (by omega)]
    have a := ih (i + 1) (by omega)
    refine ⟨fun z => absurd (by rw [← hn]; exact z) (nI_ge (a := i) (b := no) (by omega) (by omega)), fun _ => ⟨vp_in_nI (by omega) (by omega), fun z => ?_, fun z => ?_⟩⟩
    · unfold wX7_meanPrice_31
      rw [nI_clamp (n := i) (by omega)]
      refine ⟨vp_in_nI (by omega) (by omega), fun _ => ?_, fun y => absurd y z⟩
      unfold wX7_meanPrice_55
      have z' : ¬ K 5 4 i = 98 := by rw [h3 i (by omega)]; exact z
      have e1 : pS K (i + 1) = pS K i := by
        show pS K i + (if K 5 4 i = 98 then K 5 1 i else 0) = _
        rw [if_neg z', Int32.add_zero]
      have e2 : cntE (K 5 4) 98 (i + 1) = cntE (K 5 4) 98 i := by
        show cntE (K 5 4) 98 i + (if K 5 4 i = 98 then 1 else 0) = _
        rw [if_neg z', Nat.add_zero]
      rw [e1, e2] at a
      rw [nI_1, Int32.add_zero, Int32.add_zero]
      exact a
    · unfold wX7_meanPrice_31
      rw [nI_clamp (n := i) (by omega)]
      refine ⟨vp_in_nI (by omega) (by omega), fun y => absurd z y, fun _ => ⟨vp_in_nI (by omega) (by omega), ?_⟩⟩
      unfold wX7_meanPrice_55
      have z' : K 5 4 i = 98 := by rw [h3 i (by omega)]; exact z
      have e1 : pS K (i + 1) = pS K i + M 16 31 i := by
        show pS K i + (if K 5 4 i = 98 then K 5 1 i else 0) = _
        rw [if_pos z', h4 i (by omega)]
      have e2 : nI (cntE (K 5 4) 98 (i + 1)) = nI (cntE (K 5 4) 98 i) + 1 := by
        rw [nI_1]
        show nI (cntE (K 5 4) 98 i + (if K 5 4 i = 98 then 1 else 0)) = _
        rw [if_pos z']
      rw [e1, e2] at a
      rw [nI_1 (a := i)]
      exact a
theorem c_meanPrice {t uc us : Nat} {K M : KS} {ap o : Int64} {od : UInt64} (ht : t < 512) (hI : InvC t uc us K M ap) : st_meanPrice (InvC (t + 1)) uc us K M ap o od := by
  obtain ⟨_, hu, hs, np, nc, nd, no, ns, P, r, cn, sn, dp, ew, go, bl, sl, sk, h⟩ := hI
  have no1 := rx_no1 h
  have no2 := rx_no2 h
  have no3 := rx_no3 h
  have no4 := rx_no4 h
  have lc2 := rx_lc2 h
  have l2 := rx_l2 h
  have o2 := rx_o2 h
  have o3 := rx_o3 h
  unfold st_meanPrice
  refine ⟨1, 6, by omega, by omega, ?_⟩
  unfold wpL_meanPrice wpX6_meanPrice
  have e0 : (0 : Int32) = nI 0 := rfl
  refine ⟨no + 1, ?_⟩
  refine cl_mean no1 no4 (nO_of no2 (by omega)) lc2 l2 (fun z => ⟨by omega, by omega, rfl, ?q_a⟩) (fun z => ?q_b) no 0 (by omega)
  case q_a =>
    unfold wpX7_meanPrice
    refine ⟨no + 1, ?_⟩
    refine ml_mean (K := K) no3 no4 (fun k hk => (o3 k hk).1) (fun k hk => (o2 k hk).1) (fun _ => ?_) (fun y => absurd z y) no 0 (by omega)
    unfold wpX7_thrown
    exact ⟨rfl, fun y => absurd y (by decide), inv_rd 1 ht hu hs (by omega) (by omega) h⟩
  case q_b =>
    unfold wpX7_meanPrice
    refine ⟨no + 1, ?_⟩
    refine ml_mean (K := K) no3 no4 (fun k hk => (o3 k hk).1) (fun k hk => (o2 k hk).1) (fun y => absurd y z) (fun _ => ?_) no 0 (by omega)
    unfold wpX7_thrown
    have hc := cntE_le (K 5 4) 98 no
    exact ⟨rfl, fun _ => dd_self (nI_ne0 (by omega) (by omega)), inv_rd 0 ht hu hs (by omega) (by omega) h⟩
