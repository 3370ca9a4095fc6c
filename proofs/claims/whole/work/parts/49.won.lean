/-! The share of won cards and its bits. -/
def bsF (l1 : UInt32) (l2 T : Int32) : Bool := decide ((FP.fsub l1 FP.fconst1) &&& 0x7fffffff ≤ 0x7f800000) && (decide ((FP.fmul (FP.fsub l1 FP.fconst1) 1258291200) &&& 0x7fffffff ≤ 0x7f800000) && decide (((l2 <<< (23 &&& 31)) ||| FP.f2i (FP.fmul (FP.fsub l1 FP.fconst1) 1258291200)) = T))
def bsL : Nat → UInt32 → Int32 → Int32 → Int32 → Bool
  | 0, _, _, _, _ => false
  | n + 1, l1, l2, l3, T => if 6 ≤ l3 then bsF l1 l2 T else if 0 ≤ Op.cmpValue (FP.fcmp l1 FP.fconst1) .g then bsF l1 l2 T else decide ((FP.fmul l1 FP.fconst2) &&& 0x7fffffff ≤ 0x7f800000) && bsL n (FP.fmul l1 FP.fconst2) (l2 + (-1)) (l3 + 1) T
def bsV (v : UInt32) : Bool := decide (v &&& 0x7fffffff ≤ 0x7f800000) && (decide (Op.cmpValue (FP.fcmp v v) .l = 0) && (if 0 < Op.cmpValue (FP.fcmp v FP.fconst0) .g then bsL 7 v 127 0 v.toInt32 else decide (v.toInt32 = 0)))
def bsAll : Bool := (List.range 40).all fun n => (List.range (n + 2)).all fun w => bsV (FP.fdiv (FP.i2f (nI w)) (FP.i2f (nI (n + 1))))
theorem bs_all : bsAll = true := by decide +kernel
theorem bs_of {w n : Nat} (hn : 0 < n) (hn2 : n ≤ 40) (hw : w ≤ n) : bsV (FP.fdiv (FP.i2f (nI w)) (FP.i2f (nI n))) = true := by
  have h := bs_all
  unfold bsAll at h
  have h1 := List.all_eq_true.mp h (n - 1) (List.mem_range.mpr (by omega))
  have h2 := List.all_eq_true.mp h1 w (List.mem_range.mpr (by omega))
  rw [show n - 1 + 1 = n by omega] at h2
  exact h2
theorem bsF_ok {post : Int32 → Prop} {l1 : UInt32} {l2 T : Int32} {K : KS} (h : bsF l1 l2 T = true) (hp : post T) : wX6_bitsOfShare_40 post l1 l2 K := by
  unfold bsF at h
  rw [Bool.and_eq_true, Bool.and_eq_true, decide_eq_true_iff, decide_eq_true_iff, decide_eq_true_iff] at h
  unfold wX6_bitsOfShare_40
  refine ⟨h.1, h.2.1, fun x hx => ?_⟩
  rw [hx, h.2.2]
  exact hp
theorem bsL_ok {post : Int32 → Prop} {T : Int32} {K : KS} (hp : post T) : ∀ (n : Nat) (l1 : UInt32) (l2 l3 : Int32), bsL n l1 l2 l3 T = true → wX6_bitsOfShare_15 post n l1 l2 l3 K := by
  intro n
  induction n with
  | zero =>
    intro l1 l2 l3 h
    cases h
  | succ n ih =>
    intro l1 l2 l3 h
    unfold bsL at h
    unfold wX6_bitsOfShare_15
    refine ⟨fun z => ?_, fun z => ⟨fun y => ?_, fun y => ?_⟩⟩
    · rw [if_pos z] at h
      exact bsF_ok h hp
    · rw [if_neg z, if_pos y] at h
      exact bsF_ok h hp
    · rw [if_neg z, if_neg y, Bool.and_eq_true, decide_eq_true_iff] at h
      exact ⟨h.1, ih _ _ _ h.2⟩
theorem bsV_ok {post : Int32 → Prop} {v : UInt32} {K : KS} (h : bsV v = true) (hp : post v.toInt32) : vf_n32 v ∧ Op.cmpValue (FP.fcmp v v) .l = 0 ∧ wpX6_bitsOfShare post K v := by
  unfold bsV at h
  rw [Bool.and_eq_true, Bool.and_eq_true, decide_eq_true_iff, decide_eq_true_iff] at h
  refine ⟨h.1, h.2.1, ?_⟩
  unfold wpX6_bitsOfShare
  have g := h.2.2
  refine ⟨fun z => ⟨7, ?_⟩, fun z => ?_⟩
  · rw [if_pos z] at g
    exact bsL_ok hp 7 _ _ _ g
  · rw [if_neg z, decide_eq_true_iff] at g
    rw [← g]
    exact hp
theorem cl_won {post : Int32 → Prop} {px : String → Prop} {mc ms nc : Nat} {K : KS} (hn : K 8 2 0 = nI nc) (h0 : 0 < nc) (hb : nc ≤ 40) (h2 : nC K = nc) (hlc : lcp (K 8 3 0) nc) (h5 : ∀ j, j < nc → K 9 0 j = nI j) (hp : post (FP.fdiv (FP.i2f (nI (cntE (K 4 3) 119 nc))) (FP.i2f (nI nc))).toInt32) : ∀ m i, i + m = nc → wX6_wonBits_25 post px mc ms (m + 1) 0 0 (nI (cntE (K 4 3) 119 i)) (nI i) K := by
  intro m
  induction m with
  | zero =>
    intro i hi
    have hi2 : i = nc := by omega
    subst hi2
    have hc := cntE_le (K 4 3) 119 i
    unfold wX6_wonBits_25
    rw [hn]
    have a := bsV_ok (K := K) (post := post) (bs_of h0 hb hc) hp
    exact ⟨fun _ => ⟨a.1, a.2.2⟩, fun z => absurd (nI_le (by omega) (by omega)) z⟩
  | succ m ih =>
    intro i hi
    unfold wX6_wonBits_25
    rw [nI_clamp (n := i) (by omega), h5 i (by omega), nI_clamp (n := i) (by omega), h2]
    have a := ih (i + 1) (by omega)
    refine ⟨fun z => absurd (by rw [← hn]; exact z) (nI_ge (a := i) (b := nc) (by omega) (by omega)), fun _ => ⟨ok_get hn hlc (by omega) (by omega), by omega, fun z => ?_, fun z => ?_⟩⟩
    · unfold wX6_wonBits_58
      have e2 : cntE (K 4 3) 119 (i + 1) = cntE (K 4 3) 119 i := by
        show cntE (K 4 3) 119 i + (if K 4 3 i = 119 then 1 else 0) = _
        rw [if_neg z, Nat.add_zero]
      rw [e2, ← nI_1 (a := i)] at a
      exact a
    · unfold wX6_wonBits_58
      have e2 : nI (cntE (K 4 3) 119 (i + 1)) = nI (cntE (K 4 3) 119 i) + 1 := by
        rw [nI_1]
        show nI (cntE (K 4 3) 119 i + (if K 4 3 i = 119 then 1 else 0)) = _
        rw [if_pos z]
      rw [e2, ← nI_1 (a := i)] at a
      exact a
theorem ml_won {post : Int32 → KS → Int64 → Prop} {nc : Nat} {K M : KS} {ap : Int64} (hn : M 3 5 0 = nI nc) (hb : nc ≤ 40) (h3 : ∀ c, c < nc → K 4 3 c = M 13 8 c) (hx : ¬ M 3 0 0 ≤ 0 → post 0 M ap) (h0 : M 3 0 0 ≤ 0 → 0 < nc) (hp : M 3 0 0 ≤ 0 → post (FP.fdiv (FP.i2f (nI (cntE (K 4 3) 119 nc))) (FP.i2f (nI nc))).toInt32 M ap) : ∀ m i, i + m = nc → wX7_wonBits_20 post (m + 1) (nI (cntE (K 4 3) 119 i)) (nI i) M ap := by
  intro m
  induction m with
  | zero =>
    intro i hi
    have hi2 : i = nc := by omega
    subst hi2
    have hc := cntE_le (K 4 3) 119 i
    unfold wX7_wonBits_20
    rw [hn]
    refine ⟨fun _ => ⟨fun z => ?_, fun z => hx z⟩, fun z => absurd (nI_le (by omega) (by omega)) z⟩
    have a := bsV_ok (K := K) (post := fun _ => True) (bs_of (h0 z) hb hc) trivial
    exact ⟨a.1, a.2.1, hp z⟩
  | succ m ih =>
    intro i hi
    unfold wX7_wonBits_20
    rw [nI_clamp (n := i) (by omega)]
    have a := ih (i + 1) (by omega)
    refine ⟨fun z => absurd (by rw [← hn]; exact z) (nI_ge (a := i) (b := nc) (by omega) (by omega)), fun _ => ⟨vp_in_nI (by omega) (by omega), fun z => ?_, fun z => ?_⟩⟩
    · unfold wX7_wonBits_45
      have e2 : cntE (K 4 3) 119 (i + 1) = cntE (K 4 3) 119 i := by
        show cntE (K 4 3) 119 i + (if K 4 3 i = 119 then 1 else 0) = _
        rw [if_neg (by rw [h3 i (by omega)]; exact z), Nat.add_zero]
      rw [e2, ← nI_1 (a := i)] at a
      rw [Int32.add_zero]
      exact a
    · unfold wX7_wonBits_45
      have e2 : nI (cntE (K 4 3) 119 (i + 1)) = nI (cntE (K 4 3) 119 i) + 1 := by
        rw [nI_1]
        show nI (cntE (K 4 3) 119 i + (if K 4 3 i = 119 then 1 else 0)) = _
        rw [if_pos (by rw [h3 i (by omega)]; exact z)]
      rw [e2, ← nI_1 (a := i)] at a
      exact a
theorem c_wonBits {t uc us : Nat} {K M : KS} {ap o : Int64} {od : UInt64} (ht : t < 512) (hI : InvC t uc us K M ap) : st_wonBits (InvC (t + 1)) uc us K M ap o od := by
  obtain ⟨_, hu, hs, np, nc, nd, no, ns, P, r, cn, sn, dp, ew, go, bl, sl, sk, h⟩ := hI
  have nc1 := rx_nc1 h
  have nc2 := rx_nc2 h
  have nc3 := rx_nc3 h
  have nc4 := rx_nc4 h
  have lc0 := rx_lc0 h
  have l0 := rx_l0 h
  have c3 := rx_c3 h
  unfold st_wonBits
  refine ⟨1, 6, by omega, by omega, ?_⟩
  unfold wpL_wonBits wpX6_wonBits
  rw [nc1]
  by_cases q : nc = 0
  · subst q
    refine ⟨fun z => absurd z (by decide), fun _ => ⟨by omega, by omega, rfl, ?_⟩⟩
    unfold wpX7_wonBits
    rw [nc3]
    refine ⟨fun z => absurd rfl z, fun _ => ?_⟩
    unfold wX7_wonBits_13
    refine ⟨0 + 1, ?_⟩
    refine ml_won (K := K) (M := k3 M 3 0 0 1) (nc := 0) nc3 (by omega) (fun c hc => absurd hc (Nat.not_lt_zero c)) (fun _ => ?_) (fun z => absurd (show (1 : Int32) ≤ 0 from z) (by decide)) (fun z => absurd (show (1 : Int32) ≤ 0 from z) (by decide)) 0 0 rfl
    unfold wpX7_thrown
    exact ⟨rfl, fun y => absurd y (by decide), inv_rd 1 ht hu hs (by omega) (by omega) h⟩
  · have q2 : ¬ nI nc = 0 := nI_ne0 (by omega) (by omega)
    rw [if_neg q2]
    refine ⟨fun _ => ⟨nc + 1, ?_⟩, fun z => absurd rfl z⟩
    refine cl_won nc1 (by omega) nc4 (nC_of nc2 (by omega)) lc0 l0 ?_ nc 0 (by omega)
    unfold wpX7_wonBits
    rw [nc3]
    refine ⟨fun _ => ?_, fun z => absurd z q2⟩
    unfold wX7_wonBits_13
    refine ⟨nc + 1, ?_⟩
    refine ml_won (K := K) (M := k3 M 3 0 0 0) (nc := nc) nc3 nc4 (fun c hc => (c3 c hc).1) (fun z => absurd (show (0 : Int32) ≤ 0 from Int32.le_refl 0) z) (fun _ => by omega) (fun _ => ?_) nc 0 (by omega)
    unfold wpX7_thrown
    exact ⟨rfl, fun _ => rfl, inv_rd 0 ht hu hs (by omega) (by omega) h⟩
