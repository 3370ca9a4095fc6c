/-! The pure part begins: look-ups in states, tests of the two sides. -/
theorem k3_if (K : KS) (a b c : Nat) (v : Int32) (a' b' c' : Nat) : k3 K a b c v a' b' c' = if a' = a ∧ b' = b ∧ c' = c then v else K a' b' c' := by
  by_cases h1 : a' = a
  · subst h1
    by_cases h2 : b' = b
    · subst h2
      by_cases h3 : c' = c
      · subst h3
        rw [k3_s, if_pos ⟨rfl, rfl, rfl⟩]
      · rw [k3_c _ _ h3, if_neg (fun z => h3 z.2.2)]
    · rw [k3_b _ _ h2, if_neg (fun z => h2 z.2.1)]
  · rw [k3_a _ _ h1, if_neg (fun z => h1 z.1)]
/-- needPlayer: a player's number goes on, any other throws -/
theorem nd_player {post : Unit → Prop} {px : String → Prop} {mc ms : Nat} {K : KS} {p1 : Int32} (h1 : 0 ≤ p1 ∧ p1 < K 0 1 0 → post ()) (h2 : ¬ (0 ≤ p1 ∧ p1 < K 0 1 0) → 1 ≤ mc ∧ 6 ≤ ms ∧ px "java/lang/IndexOutOfBoundsException") : wpX6_needPlayer post px mc ms K p1 := by
  unfold wpX6_needPlayer
  refine ⟨fun c => ?_, fun c => ⟨fun d => h1 ⟨Int32.not_lt.mp c, d⟩, fun d => ?_⟩⟩
  · have := h2 (fun z => Int32.not_le.mpr c z.1)
    exact ⟨by omega, by omega, this.2.2⟩
  · have := h2 (fun z => d z.2)
    exact ⟨by omega, by omega, this.2.2⟩
/-- the reference's test of a player's number -/
theorem md_player {post : Int32 → Prop} {M : KS} {ap : Int64} {p1 : Int32} {n : Nat} (hn : M 3 1 0 = nI n) (hn2 : n < 100) (h : post (if 0 ≤ p1 ∧ p1 < M 3 1 0 then 1 else 0)) : wpX7_isPlayer post M ap p1 := by
  have key : M 3 1 0 - 1 < p1 ↔ ¬ p1 < M 3 1 0 := by
    rw [hn, Int32.lt_iff_toInt_lt, Int32.lt_iff_toInt_lt, Int32.toInt_sub, nI_toInt (by omega), show (1 : Int32).toInt = 1 from rfl, Int.bmod_eq_of_le (by omega) (by omega)]
    omega
  unfold wpX7_isPlayer wpX7_in
  refine ⟨fun c => ⟨rfl, ?_⟩, fun c => ⟨fun d => ⟨rfl, ?_⟩, fun d => ⟨rfl, ?_⟩⟩⟩
  · rw [if_neg (fun z => Int32.not_le.mpr c z.1)] at h
    exact h
  · rw [if_neg (fun z => key.mp d z.2)] at h
    exact h
  · rw [if_pos ⟨Int32.not_lt.mp c, Classical.byContradiction fun z => d (key.mpr z)⟩] at h
    exact h
theorem nI_in6 {np : Nat} {p1 : Int32} (hnp : np ≤ 100) (h0 : 0 ≤ p1) (h1 : p1 < nI np) : ∃ j : Nat, j < np ∧ p1 = nI j := by
  obtain ⟨j, hj, rfl⟩ := nI_of (Int32.not_lt.mpr h0)
  exact ⟨j, (nI_ltI hj (by omega)).mp h1, rfl⟩
/-- coinsOf: the answers are equal, nothing changes but the reference's code of throws -/
theorem s_coinsOf {I : Nat → Nat → KS → KS → Int64 → Prop} {uc us np : Nat} {K M : KS} {ap o : Int64} {od : UInt64} {p1 : Int32} (h1 : K 0 1 0 = nI np) (h2 : M 3 1 0 = nI np) (hnp : np ≤ 6) (hc : ∀ p, p < np → K 10 0 p = M 16 2 p) (hu : uc + 1 ≤ 603072 ∧ us + 6 ≤ 7190634) (hI : ∀ v, I (uc + 1) (us + 6) K (k3 (k3 M 3 0 0 0) 3 0 0 v) ap) (hI2 : I (uc + 1) (us + 6) K (k3 M 3 0 0 0) ap) : st_coinsOf I uc us K M ap o od p1 := by
  unfold st_coinsOf wpL_coinsOf wpX6_coinsOf
  refine ⟨1, 6, hu.1, hu.2, 1, 6, by omega, by omega, nd_player (fun z => ?_) (fun z => ⟨by omega, by omega, rfl, ?_⟩)⟩
  · obtain ⟨j, hj, rfl⟩ := nI_in6 (np := np) (by omega) z.1 (by rw [← h1]; exact z.2)
    have hin : vp_in (nI j) 6 := vp_in_nI (by omega) (by omega)
    refine ⟨hin, ?_⟩
    unfold wpX7_coinsOf
    refine md_player (n := np) (by rw [k3_if, if_neg (by omega)]; exact h2) (by omega) ?_
    rw [if_pos ⟨z.1, by rw [k3_if, if_neg (by omega), h2, ← h1]; exact z.2⟩]
    refine ⟨fun q => absurd q (by decide), fun _ => ⟨hin, ?_⟩⟩
    unfold wpX7_thrown
    refine ⟨by rw [k3_if, if_pos ⟨rfl, rfl, rfl⟩], fun _ => ?_, hI2⟩
    rw [k3_if, if_neg (by omega), nI_clamp (by omega), hc j hj]
  · unfold wpX7_coinsOf
    refine md_player (n := np) (by rw [k3_if, if_neg (by omega)]; exact h2) (by omega) ?_
    rw [if_neg (fun q => z ⟨q.1, by have q2 := q.2; rw [k3_if, if_neg (by omega), h2, ← h1] at q2; exact q2⟩)]
    refine ⟨fun _ => ?_, fun q => absurd rfl q⟩
    unfold wpX7_fails wpX7_thrown
    exact ⟨by rw [k3_if, if_pos ⟨rfl, rfl, rfl⟩], fun q => absurd q (by decide), hI 1⟩
/-- cardAt: a card's number goes on with the card, any other throws -/
theorem nd_card {post : Nat → Prop} {px : String → Prop} {mc ms nc q : Nat} {K : KS} {p1 : Int32} (h1 : K 8 2 0 = nI nc) (h2 : nC K = nc) (h3 : K 8 3 0 = nI q) (h4 : nc ≤ q ∧ q ≤ 40000) (h5 : ∀ j, j < nc → K 9 0 j = nI j) (hok : ∀ j, j < nc → p1 = nI j → post j) (hx : ¬ (0 ≤ p1 ∧ p1 < nI nc) → 1 ≤ mc ∧ 6 ≤ ms ∧ px "java/lang/IndexOutOfBoundsException") : wpX6_cardAt post px mc ms K p1 := by
  unfold wpX6_cardAt
  refine ⟨fun c => ?_, fun c => ⟨fun d => ?_, fun d => ?_⟩⟩
  · have := hx (fun z => Int32.not_le.mpr c z.1)
    exact ⟨by omega, by omega, this.2.2⟩
  · rw [h1] at d
    obtain ⟨j, hj, rfl⟩ := nI_of c
    have hjn : j < nc := (nI_ltI hj (by omega)).mp d
    have e : (K 9 0 (nI j).toNatClampNeg).toNatClampNeg = j := by rw [nI_clamp hj, h5 j hjn, nI_clamp hj]
    refine ⟨⟨c, by rw [h1]; exact d, ?_, ?_⟩, ?_, ?_⟩
    · rw [h3]
      exact nI_ne0 (by omega) (by omega)
    · rw [h1, h3, nI_clamp (by omega), nI_clamp (by omega)]
      exact h4.1
    · rw [e, h2]
      exact hjn
    · rw [e]
      exact hok j hjn rfl
  · have := hx (fun z => d (by rw [h1]; exact z.2))
    exact ⟨by omega, by omega, this.2.2⟩
theorem md_in {post : Int32 → Prop} {M : KS} {ap : Int64} {p1 N : Int32} {n : Nat} (hn : N = nI n) (hn2 : n < 100) (h : post (if 0 ≤ p1 ∧ p1 < N then 1 else 0)) : wpX7_in (fun r1 => (narrow .boolean (.int r1) = .int r1) ∧ post r1) M ap p1 0 (N - 1) := by
  have key : N - 1 < p1 ↔ ¬ p1 < N := by
    rw [hn, Int32.lt_iff_toInt_lt, Int32.lt_iff_toInt_lt, Int32.toInt_sub, nI_toInt (by omega), show (1 : Int32).toInt = 1 from rfl, Int.bmod_eq_of_le (by omega) (by omega)]
    omega
  unfold wpX7_in
  refine ⟨fun c => ⟨rfl, ?_⟩, fun c => ⟨fun d => ⟨rfl, ?_⟩, fun d => ⟨rfl, ?_⟩⟩⟩
  · rw [if_neg (fun z => Int32.not_le.mpr c z.1)] at h
    exact h
  · rw [if_neg (fun z => key.mp d z.2)] at h
    exact h
  · rw [if_pos ⟨Int32.not_lt.mp c, Classical.byContradiction fun z => d (key.mpr z)⟩] at h
    exact h
theorem md_card {post : Int32 → Prop} {M : KS} {ap : Int64} {p1 : Int32} {n : Nat} (hn : M 3 5 0 = nI n) (hn2 : n < 100) (h : post (if 0 ≤ p1 ∧ p1 < M 3 5 0 then 1 else 0)) : wpX7_isCard post M ap p1 := md_in hn hn2 h
theorem s_ownerOf {I : Nat → Nat → KS → KS → Int64 → Prop} {uc us nc q : Nat} {K M : KS} {ap o : Int64} {od : UInt64} {p1 : Int32} (h1 : K 8 2 0 = nI nc) (h2 : nC K = nc) (h3 : K 8 3 0 = nI q) (h4 : nc ≤ q ∧ q ≤ 40000) (h5 : ∀ j, j < nc → K 9 0 j = nI j) (h6 : M 3 5 0 = nI nc) (hnc : nc ≤ 40) (hc : ∀ j, j < nc → K 4 2 j = M 16 7 j) (hu : uc + 1 ≤ 603072 ∧ us + 6 ≤ 7190634) (hI : ∀ v, I (uc + 1) (us + 6) K (k3 (k3 M 3 0 0 0) 3 0 0 v) ap) (hI2 : I (uc + 1) (us + 6) K (k3 M 3 0 0 0) ap) : st_ownerOf I uc us K M ap o od p1 := by
  have hM : (k3 M 3 0 0 0) 3 5 0 = nI nc := by rw [k3_if, if_neg (by omega)]; exact h6
  unfold st_ownerOf wpL_ownerOf wpX6_ownerOf
  refine ⟨1, 6, hu.1, hu.2, 1, 6, by omega, by omega, nd_card h1 h2 h3 h4 h5 (fun j hj e => ?_) (fun z => ⟨by omega, by omega, rfl, ?_⟩)⟩
  · subst e
    refine ⟨by rw [h2]; exact hj, ?_⟩
    unfold wpX7_ownerOf
    refine md_card hM (by omega) ?_
    rw [hM, if_pos ⟨nI_pos' (by omega), nI_lt hj (by omega)⟩]
    refine ⟨fun q => absurd q (by decide), fun _ => ⟨vp_in_nI (by omega) (by omega), ?_⟩⟩
    unfold wpX7_thrown
    refine ⟨by rw [k3_if, if_pos ⟨rfl, rfl, rfl⟩], fun _ => ?_, hI2⟩
    rw [k3_if, if_neg (by omega), nI_clamp (by omega), hc j hj]
  · unfold wpX7_ownerOf
    refine md_card hM (by omega) ?_
    rw [hM, if_neg z]
    refine ⟨fun _ => ?_, fun q => absurd rfl q⟩
    unfold wpX7_fails wpX7_thrown
    exact ⟨by rw [k3_if, if_pos ⟨rfl, rfl, rfl⟩], fun q => absurd q (by decide), hI 1⟩
theorem s_postings {I : Nat → Nat → KS → KS → Int64 → Prop} {uc us : Nat} {K M : KS} {ap o : Int64} {od : UInt64} (h : K 1 1 0 = M 3 11 0) (hI : I uc us K (k3 M 3 0 0 0) ap) : st_postings I uc us K M ap o od := by
  unfold st_postings wpX6_postings wpX7_postings
  exact ⟨by rw [k3_if, if_neg (by omega)]; exact h, hI⟩
theorem s_house {I : Nat → Nat → KS → KS → Int64 → Prop} {uc us : Nat} {K M : KS} {ap o : Int64} {od : UInt64} (h : K 0 3 0 = M 3 3 0) (hI : I uc us K (k3 M 3 0 0 0) ap) : st_house I uc us K M ap o od := by
  unfold st_house wpX6_house wpX7_house
  exact ⟨by rw [k3_if, if_neg (by omega)]; exact h, hI⟩
theorem s_apart {I : Nat → Nat → KS → KS → Int64 → Prop} {uc us : Nat} {K M : KS} {ap o : Int64} {od : UInt64} (h : (K 0 4 0).toInt64 = ap) (hI : I uc us K (k3 M 3 0 0 0) ap) : st_apart I uc us K M ap o od := by
  unfold st_apart wpX6_apart wpX7_apart
  exact ⟨h, hI⟩
theorem s_stateOf {I : Nat → Nat → KS → KS → Int64 → Prop} {uc us nc q : Nat} {K M : KS} {ap o : Int64} {od : UInt64} {p1 : Int32} (h1 : K 8 2 0 = nI nc) (h2 : nC K = nc) (h3 : K 8 3 0 = nI q) (h4 : nc ≤ q ∧ q ≤ 40000) (h5 : ∀ j, j < nc → K 9 0 j = nI j) (h6 : M 3 5 0 = nI nc) (hnc : nc ≤ 40) (hc : ∀ j, j < nc → K 4 3 j = M 13 8 j) (hch : ∀ j, j < nc → narrow .char (.int (K 4 3 j)) = .int (K 4 3 j)) (hu : uc + 1 ≤ 603072 ∧ us + 6 ≤ 7190634) (hI : ∀ v, I (uc + 1) (us + 6) K (k3 (k3 M 3 0 0 0) 3 0 0 v) ap) (hI2 : I (uc + 1) (us + 6) K (k3 M 3 0 0 0) ap) : st_stateOf I uc us K M ap o od p1 := by
  have hM : (k3 M 3 0 0 0) 3 5 0 = nI nc := by rw [k3_if, if_neg (by omega)]; exact h6
  unfold st_stateOf wpL_stateOf wpX6_stateOf
  refine ⟨1, 6, hu.1, hu.2, 1, 6, by omega, by omega, nd_card h1 h2 h3 h4 h5 (fun j hj e => ?_) (fun z => ⟨by omega, by omega, rfl, ?_⟩)⟩
  · subst e
    refine ⟨by rw [h2]; exact hj, hch j hj, ?_⟩
    unfold wpX7_stateOf
    refine md_card hM (by omega) ?_
    rw [hM, if_pos ⟨nI_pos' (by omega), nI_lt hj (by omega)⟩]
    have e9 : (k3 M 3 0 0 0) 13 8 (nI j).toNatClampNeg = K 4 3 j := by rw [k3_if, if_neg (by omega), nI_clamp (by omega), hc j hj]
    refine ⟨fun q => absurd q (by decide), fun _ => ⟨vp_in_nI (by omega) (by omega), ?_, ?_⟩⟩
    · rw [e9]
      exact hch j hj
    · unfold wpX7_thrown
      refine ⟨by rw [k3_if, if_pos ⟨rfl, rfl, rfl⟩], fun _ => ?_, hI2⟩
      rw [e9]
  · unfold wpX7_stateOf
    refine md_card hM (by omega) ?_
    rw [hM, if_neg z]
    refine ⟨fun _ => ?_, fun q => absurd rfl q⟩
    unfold wpX7_failsChar wpX7_thrown
    exact ⟨rfl, by rw [k3_if, if_pos ⟨rfl, rfl, rfl⟩], fun q => absurd q (by decide), hI 1⟩
def kPlayer (K : KS) (v : Int32) : KS := k3 (k3 (k3 K 10 0 (K 0 1 0).toNatClampNeg v) 0 2 0 (K 0 2 0 + v)) 0 1 0 (K 0 1 0 + 1)
def mPlayer (M : KS) (v : Int32) : KS := k3 (k3 (k3 M 3 0 0 0) 16 2 (M 3 1 0).toNatClampNeg v) 3 1 0 (M 3 1 0 + 1)
/-- player: a write, with the states after it named -/
theorem s_player {I : Nat → Nat → KS → KS → Int64 → Prop} {uc us np : Nat} {K M : KS} {ap o : Int64} {od : UInt64} {p1 : Int32} (h1 : K 0 1 0 = nI np) (h2 : M 3 1 0 = nI np) (hnp : np ≤ 6) (hu : uc + 1 ≤ 603072 ∧ us + 6 ≤ 7190634) (hI : ∀ v, I (uc + 1) (us + 6) K (k3 (k3 M 3 0 0 0) 3 0 0 v) ap) (hI2 : np < 6 → 0 ≤ p1 → p1 ≤ 999 → I (uc + 1) (us + 6) (kPlayer K p1) (mPlayer M p1) ap) : st_player I uc us K M ap o od p1 := by
  unfold st_player wpL_player wpX6_player
  refine ⟨1, 6, hu.1, hu.2, fun c => ⟨by omega, by omega, Or.inl ⟨rfl, ?_⟩⟩, fun c => ⟨fun d => ⟨fun f => ?_, fun f => ?_⟩, fun d => ⟨by omega, by omega, Or.inl ⟨rfl, ?_⟩⟩⟩⟩
  · unfold wpX7_player wpX7_in
    refine ⟨fun _ => ⟨fun q => absurd rfl q, fun _ => ?_⟩, fun q => absurd c q⟩
    unfold wpX7_fails wpX7_thrown
    exact ⟨by rw [k3_if, if_pos ⟨rfl, rfl, rfl⟩], fun q => absurd q (by decide), hI 1⟩
  · have hlt : np < 6 := by
      rw [h1] at f
      exact (nI_ltI (b := 6) (by omega) (by omega)).mp f
    refine ⟨by rw [h1]; exact vp_in_nI hlt (by omega), ?_⟩
    unfold wpX7_player wpX7_in
    refine ⟨fun q => absurd q c, fun _ => ⟨fun q => absurd d (Int32.not_le.mpr q), fun _ => ⟨fun _ => ⟨fun _ => ⟨?_, ?_⟩, fun q => ?_⟩, fun q => absurd q (by decide)⟩⟩⟩
    · show vp_in (M 3 1 0) 6
      rw [h2]
      exact vp_in_nI hlt (by omega)
    · unfold wpX7_thrown
      refine ⟨rfl, fun _ => ?_, hI2 hlt (Int32.not_lt.mp c) d⟩
      show (K 0 1 0).toInt64 = (M 3 1 0 + 1 - 1).toInt64
      rw [h1, h2, Int32.add_sub_cancel]
    · have q2 : M 3 1 0 = 6 := q
      rw [h2] at q2
      exact absurd ((nI_eq (b := 6) (by omega) (by omega)).mp q2) (by omega)
  · have he : np = 6 := by
      rcases Nat.lt_or_ge np 6 with q | q
      · exact absurd (by rw [h1]; exact nI_lt (b := 6) q (by omega)) f
      · omega
    refine ⟨by omega, by omega, Or.inr ⟨rfl, ?_⟩⟩
    unfold wpX7_player wpX7_in
    refine ⟨fun q => absurd q c, fun _ => ⟨fun q => absurd d (Int32.not_le.mpr q), fun _ => ⟨fun _ => ⟨fun q => absurd (by show M 3 1 0 = 6; rw [h2, he]; rfl) q, fun _ => ?_⟩, fun q => absurd q (by decide)⟩⟩⟩
    unfold wpX7_fails wpX7_thrown
    exact ⟨by rw [k3_if, if_pos ⟨rfl, rfl, rfl⟩], fun q => absurd q (by decide), hI 2⟩
  · unfold wpX7_player wpX7_in
    refine ⟨fun q => absurd q c, fun _ => ⟨fun _ => ⟨fun q => absurd rfl q, fun _ => ?_⟩, fun q => absurd (Int32.not_lt.mp q) d⟩⟩
    unfold wpX7_fails wpX7_thrown
    exact ⟨by rw [k3_if, if_pos ⟨rfl, rfl, rfl⟩], fun q => absurd q (by decide), hI 1⟩
def foldC (f : Nat → Int32) (p : Int32) : Nat → Nat → Int32 → Int32
  | _, 0, acc => acc
  | i, r + 1, acc => foldC f p (i + 1) r (if f i = p then acc + 1 else acc)
/-- the class's loop of cardsOf, as the pattern of a loop: the fuel is what is left and one -/
theorem cl_cardsOf {post : Int32 → Prop} {px : String → Prop} {mc ms nc q : Nat} {K : KS} {p : Int32} (h1 : K 8 2 0 = nI nc) (h2 : nC K = nc) (h3 : K 8 3 0 = nI q) (h4 : nc ≤ q ∧ q ≤ 40000) (h5 : ∀ j, j < nc → K 9 0 j = nI j) : ∀ (r i uc us : Nat) (acc : Int32), i + r = nc → post (foldC (fun j => K 4 2 j) p i r acc) → wX6_cardsOf_9 post px mc ms (r + 1) uc us p acc (nI i) K := by
  intro r
  induction r with
  | zero =>
    intro i uc us acc hi h
    unfold wX6_cardsOf_9
    exact ⟨fun _ => h, fun c => absurd (by rw [h1]; exact nI_le (by omega) (by omega)) c⟩
  | succ r ih =>
    intro i uc us acc hi h
    have hin : i < nc := by omega
    have e : (K 9 0 (nI i).toNatClampNeg).toNatClampNeg = i := by rw [nI_clamp (by omega), h5 i hin, nI_clamp (by omega)]
    unfold wX6_cardsOf_9
    refine ⟨fun c => absurd (by rw [← h1]; exact c) (nI_ge hin (by omega)), fun _ => ⟨⟨nI_pos (by omega), by rw [h1]; exact nI_lt hin (by omega), by rw [h3]; exact nI_ne0 (by omega) (by omega), by rw [h1, h3, nI_clamp (by omega), nI_clamp (by omega)]; exact h4.1⟩, by rw [e, h2]; exact hin, fun c => ?_, fun c => ?_⟩⟩
    · rw [e] at c
      unfold wX6_cardsOf_41
      rw [nI_1]
      refine ih (i + 1) uc us acc (by omega) ?_
      simp only [foldC] at h
      rw [if_neg c] at h
      exact h
    · rw [e] at c
      unfold wX6_cardsOf_41
      rw [nI_1]
      refine ih (i + 1) uc us (acc + 1) (by omega) ?_
      simp only [foldC] at h
      rw [if_pos c] at h
      exact h
theorem ml_cardsOf {post : Int32 → KS → Int64 → Prop} {nc : Nat} {M : KS} {ap : Int64} {p : Int32} (h1 : M 3 5 0 = nI nc) (hnc : nc ≤ 40) : ∀ (r i : Nat) (acc : Int32), i + r = nc → post (foldC (fun j => M 16 7 j) p i r acc) M ap → wX7_cardsOf_23 post (r + 1) p acc (nI i) M ap := by
  intro r
  induction r with
  | zero =>
    intro i acc hi h
    unfold wX7_cardsOf_23
    exact ⟨fun _ => h, fun c => absurd (by rw [h1]; exact nI_le (by omega) (by omega)) c⟩
  | succ r ih =>
    intro i acc hi h
    have hin : i < nc := by omega
    have e : (nI i).toNatClampNeg = i := nI_clamp (by omega)
    unfold wX7_cardsOf_23
    refine ⟨fun c => absurd (by rw [← h1]; exact c) (nI_ge hin (by omega)), fun _ => ⟨vp_in_nI (by omega) (by omega), fun c => ?_, fun c => ?_⟩⟩
    · rw [e] at c
      unfold wX7_cardsOf_47
      rw [nI_1, Int32.add_zero]
      refine ih (i + 1) acc (by omega) ?_
      simp only [foldC] at h
      rw [if_neg c] at h
      exact h
    · rw [e] at c
      unfold wX7_cardsOf_47
      rw [nI_1]
      refine ih (i + 1) (acc + 1) (by omega) ?_
      simp only [foldC] at h
      rw [if_pos c] at h
      exact h
theorem foldC_eq {f g : Nat → Int32} {p : Int32} {n : Nat} (h : ∀ j, j < n → f j = g j) : ∀ (r i : Nat) (acc : Int32), i + r = n → foldC f p i r acc = foldC g p i r acc := by
  intro r
  induction r with
  | zero => intro i acc hi; rfl
  | succ r ih =>
    intro i acc hi
    simp only [foldC]
    rw [h i (by omega)]
    exact ih (i + 1) _ (by omega)
theorem s_cardsOf {I : Nat → Nat → KS → KS → Int64 → Prop} {uc us np nc q : Nat} {K M : KS} {ap o : Int64} {od : UInt64} {p1 : Int32} (k1 : K 0 1 0 = nI np) (k2 : M 3 1 0 = nI np) (hnp : np ≤ 6) (h1 : K 8 2 0 = nI nc) (h2 : nC K = nc) (h3 : K 8 3 0 = nI q) (h4 : nc ≤ q ∧ q ≤ 40000) (h5 : ∀ j, j < nc → K 9 0 j = nI j) (h6 : M 3 5 0 = nI nc) (hnc : nc ≤ 40) (hc : ∀ j, j < nc → K 4 2 j = M 16 7 j) (hu : uc + 1 ≤ 603072 ∧ us + 6 ≤ 7190634) (hI : ∀ v, I (uc + 1) (us + 6) K (k3 (k3 M 3 0 0 0) 3 0 0 v) ap) (hI2 : I (uc + 1) (us + 6) K (k3 M 3 0 0 0) ap) : st_cardsOf I uc us K M ap o od p1 := by
  have hM : (k3 M 3 0 0 0) 3 5 0 = nI nc := by rw [k3_if, if_neg (by omega)]; exact h6
  unfold st_cardsOf wpL_cardsOf wpX6_cardsOf
  refine ⟨1, 6, hu.1, hu.2, 1, 6, by omega, by omega, nd_player (fun z => ⟨nc + 1, ?_⟩) (fun z => ⟨by omega, by omega, rfl, ?_⟩)⟩
  · refine cl_cardsOf h1 h2 h3 h4 h5 nc 0 _ _ 0 (by omega) ?_
    unfold wpX7_cardsOf
    refine md_player (n := np) (by rw [k3_if, if_neg (by omega)]; exact k2) (by omega) ?_
    rw [if_pos ⟨z.1, by rw [k3_if, if_neg (by omega), k2, ← k1]; exact z.2⟩]
    refine ⟨fun _ => ⟨nc + 1, ?_⟩, fun q => absurd q (by decide)⟩
    refine ml_cardsOf hM hnc nc 0 0 (by omega) ?_
    unfold wpX7_thrown
    refine ⟨by rw [k3_if, if_pos ⟨rfl, rfl, rfl⟩], fun _ => ?_, hI2⟩
    rw [foldC_eq (n := nc) (fun j hj => ?_) nc 0 0 (by omega)]
    rw [k3_if, if_neg (by omega)]
    exact hc j hj
  · unfold wpX7_cardsOf
    refine md_player (n := np) (by rw [k3_if, if_neg (by omega)]; exact k2) (by omega) ?_
    rw [if_neg (fun q => z ⟨q.1, by have q2 := q.2; rw [k3_if, if_neg (by omega), k2, ← k1] at q2; exact q2⟩)]
    refine ⟨fun q => absurd rfl q, fun _ => ?_⟩
    unfold wpX7_fails wpX7_thrown
    exact ⟨by rw [k3_if, if_pos ⟨rfl, rfl, rfl⟩], fun q => absurd q (by decide), hI 1⟩
theorem nd_duel {post : Nat → Prop} {px : String → Prop} {mc ms nc q : Nat} {K : KS} {p1 : Int32} (h1 : K 8 2 1 = nI nc) (h2 : nD K = nc) (h3 : K 8 3 1 = nI q) (h4 : nc ≤ q ∧ q ≤ 40000) (h5 : ∀ j, j < nc → K 9 1 j = nI j) (hok : ∀ j, j < nc → p1 = nI j → post j) (hx : ¬ (0 ≤ p1 ∧ p1 < nI nc) → 1 ≤ mc ∧ 6 ≤ ms ∧ px "java/lang/IndexOutOfBoundsException") : wpX6_duelAt post px mc ms K p1 := by
  unfold wpX6_duelAt
  refine ⟨fun c => ?_, fun c => ⟨fun d => ?_, fun d => ?_⟩⟩
  · have := hx (fun z => Int32.not_le.mpr c z.1)
    exact ⟨by omega, by omega, this.2.2⟩
  · rw [h1] at d
    obtain ⟨j, hj, rfl⟩ := nI_of c
    have hjn : j < nc := (nI_ltI hj (by omega)).mp d
    have e : (K 9 1 (nI j).toNatClampNeg).toNatClampNeg = j := by rw [nI_clamp hj, h5 j hjn, nI_clamp hj]
    refine ⟨⟨c, by rw [h1]; exact d, ?_, ?_⟩, ?_, ?_⟩
    · rw [h3]
      exact nI_ne0 (by omega) (by omega)
    · rw [h1, h3, nI_clamp (by omega), nI_clamp (by omega)]
      exact h4.1
    · rw [e, h2]
      exact hjn
    · rw [e]
      exact hok j hjn rfl
  · have := hx (fun z => d (by rw [h1]; exact z.2))
    exact ⟨by omega, by omega, this.2.2⟩
theorem md_duel {post : Int32 → Prop} {M : KS} {ap : Int64} {p1 : Int32} {n : Nat} (hn : M 3 13 0 = nI n) (hn2 : n < 100) (h : post (if 0 ≤ p1 ∧ p1 < M 3 13 0 then 1 else 0)) : wpX7_isDuel post M ap p1 := md_in hn hn2 h
theorem s_duelState {I : Nat → Nat → KS → KS → Int64 → Prop} {uc us nc q : Nat} {K M : KS} {ap o : Int64} {od : UInt64} {p1 : Int32} (h1 : K 8 2 1 = nI nc) (h2 : nD K = nc) (h3 : K 8 3 1 = nI q) (h4 : nc ≤ q ∧ q ≤ 40000) (h5 : ∀ j, j < nc → K 9 1 j = nI j) (h6 : M 3 13 0 = nI nc) (hnc : nc ≤ 8) (hc : ∀ j, j < nc → K 6 2 j = M 13 16 j) (hch : ∀ j, j < nc → narrow .char (.int (K 6 2 j)) = .int (K 6 2 j)) (hu : uc + 1 ≤ 603072 ∧ us + 6 ≤ 7190634) (hI : ∀ v, I (uc + 1) (us + 6) K (k3 (k3 M 3 0 0 0) 3 0 0 v) ap) (hI2 : I (uc + 1) (us + 6) K (k3 M 3 0 0 0) ap) : st_duelState I uc us K M ap o od p1 := by
  have hM : (k3 M 3 0 0 0) 3 13 0 = nI nc := by rw [k3_if, if_neg (by omega)]; exact h6
  unfold st_duelState wpL_duelState wpX6_duelState
  refine ⟨1, 6, hu.1, hu.2, 1, 6, by omega, by omega, nd_duel h1 h2 h3 h4 h5 (fun j hj e => ?_) (fun z => ⟨by omega, by omega, rfl, ?_⟩)⟩
  · subst e
    refine ⟨by rw [h2]; exact hj, hch j hj, ?_⟩
    unfold wpX7_duelState
    refine md_duel hM (by omega) ?_
    rw [hM, if_pos ⟨nI_pos' (by omega), nI_lt hj (by omega)⟩]
    have e9 : (k3 M 3 0 0 0) 13 16 (nI j).toNatClampNeg = K 6 2 j := by rw [k3_if, if_neg (by omega), nI_clamp (by omega), hc j hj]
    refine ⟨fun q => absurd q (by decide), fun _ => ⟨vp_in_nI (by omega) (by omega), ?_, ?_⟩⟩
    · rw [e9]
      exact hch j hj
    · unfold wpX7_thrown
      refine ⟨by rw [k3_if, if_pos ⟨rfl, rfl, rfl⟩], fun _ => ?_, hI2⟩
      rw [e9]
  · unfold wpX7_duelState
    refine md_duel hM (by omega) ?_
    rw [hM, if_neg z]
    refine ⟨fun _ => ?_, fun q => absurd rfl q⟩
    unfold wpX7_failsChar wpX7_thrown
    exact ⟨rfl, by rw [k3_if, if_pos ⟨rfl, rfl, rfl⟩], fun q => absurd q (by decide), hI 1⟩
theorem nd_offer {post : Nat → Prop} {px : String → Prop} {mc ms nc q : Nat} {K : KS} {p1 : Int32} (h1 : K 8 2 2 = nI nc) (h2 : nO K = nc) (h3 : K 8 3 2 = nI q) (h4 : nc ≤ q ∧ q ≤ 40000) (h5 : ∀ j, j < nc → K 9 2 j = nI j) (hok : ∀ j, j < nc → p1 = nI j → post j) (hx : ¬ (0 ≤ p1 ∧ p1 < nI nc) → 1 ≤ mc ∧ 6 ≤ ms ∧ px "java/lang/IndexOutOfBoundsException") : wpX6_offerAt post px mc ms K p1 := by
  unfold wpX6_offerAt
  refine ⟨fun c => ?_, fun c => ⟨fun d => ?_, fun d => ?_⟩⟩
  · have := hx (fun z => Int32.not_le.mpr c z.1)
    exact ⟨by omega, by omega, this.2.2⟩
  · rw [h1] at d
    obtain ⟨j, hj, rfl⟩ := nI_of c
    have hjn : j < nc := (nI_ltI hj (by omega)).mp d
    have e : (K 9 2 (nI j).toNatClampNeg).toNatClampNeg = j := by rw [nI_clamp hj, h5 j hjn, nI_clamp hj]
    refine ⟨⟨c, by rw [h1]; exact d, ?_, ?_⟩, ?_, ?_⟩
    · rw [h3]
      exact nI_ne0 (by omega) (by omega)
    · rw [h1, h3, nI_clamp (by omega), nI_clamp (by omega)]
      exact h4.1
    · rw [e, h2]
      exact hjn
    · rw [e]
      exact hok j hjn rfl
  · have := hx (fun z => d (by rw [h1]; exact z.2))
    exact ⟨by omega, by omega, this.2.2⟩
theorem md_offer {post : Int32 → Prop} {M : KS} {ap : Int64} {p1 : Int32} {n : Nat} (hn : M 3 29 0 = nI n) (hn2 : n < 100) (h : post (if 0 ≤ p1 ∧ p1 < M 3 29 0 then 1 else 0)) : wpX7_isOffer post M ap p1 := md_in hn hn2 h
theorem s_offerState {I : Nat → Nat → KS → KS → Int64 → Prop} {uc us nc q : Nat} {K M : KS} {ap o : Int64} {od : UInt64} {p1 : Int32} (h1 : K 8 2 2 = nI nc) (h2 : nO K = nc) (h3 : K 8 3 2 = nI q) (h4 : nc ≤ q ∧ q ≤ 40000) (h5 : ∀ j, j < nc → K 9 2 j = nI j) (h6 : M 3 29 0 = nI nc) (hnc : nc ≤ 60) (hc : ∀ j, j < nc → K 5 4 j = M 13 32 j) (hch : ∀ j, j < nc → narrow .char (.int (K 5 4 j)) = .int (K 5 4 j)) (hu : uc + 1 ≤ 603072 ∧ us + 6 ≤ 7190634) (hI : ∀ v, I (uc + 1) (us + 6) K (k3 (k3 M 3 0 0 0) 3 0 0 v) ap) (hI2 : I (uc + 1) (us + 6) K (k3 M 3 0 0 0) ap) : st_offerState I uc us K M ap o od p1 := by
  have hM : (k3 M 3 0 0 0) 3 29 0 = nI nc := by rw [k3_if, if_neg (by omega)]; exact h6
  unfold st_offerState wpL_offerState wpX6_offerState
  refine ⟨1, 6, hu.1, hu.2, 1, 6, by omega, by omega, nd_offer h1 h2 h3 h4 h5 (fun j hj e => ?_) (fun z => ⟨by omega, by omega, rfl, ?_⟩)⟩
  · subst e
    refine ⟨by rw [h2]; exact hj, hch j hj, ?_⟩
    unfold wpX7_offerState
    refine md_offer hM (by omega) ?_
    rw [hM, if_pos ⟨nI_pos' (by omega), nI_lt hj (by omega)⟩]
    have e9 : (k3 M 3 0 0 0) 13 32 (nI j).toNatClampNeg = K 5 4 j := by rw [k3_if, if_neg (by omega), nI_clamp (by omega), hc j hj]
    refine ⟨fun q => absurd q (by decide), fun _ => ⟨vp_in_nI (by omega) (by omega), ?_, ?_⟩⟩
    · rw [e9]
      exact hch j hj
    · unfold wpX7_thrown
      refine ⟨by rw [k3_if, if_pos ⟨rfl, rfl, rfl⟩], fun _ => ?_, hI2⟩
      rw [e9]
  · unfold wpX7_offerState
    refine md_offer hM (by omega) ?_
    rw [hM, if_neg z]
    refine ⟨fun _ => ?_, fun q => absurd rfl q⟩
    unfold wpX7_failsChar wpX7_thrown
    exact ⟨rfl, by rw [k3_if, if_pos ⟨rfl, rfl, rfl⟩], fun q => absurd q (by decide), hI 1⟩
theorem s_depth {I : Nat → Nat → KS → KS → Int64 → Prop} {uc us nc q : Nat} {K M : KS} {ap o : Int64} {od : UInt64} {p1 : Int32} (h1 : K 8 2 1 = nI nc) (h2 : nD K = nc) (h3 : K 8 3 1 = nI q) (h4 : nc ≤ q ∧ q ≤ 40000) (h5 : ∀ j, j < nc → K 9 1 j = nI j) (h6 : M 3 13 0 = nI nc) (hnc : nc ≤ 8) (hc : ∀ j, j < nc → K 6 7 j = M 16 24 j) (hu : uc + 1 ≤ 603072 ∧ us + 6 ≤ 7190634) (hI : ∀ v, I (uc + 1) (us + 6) K (k3 (k3 M 3 0 0 0) 3 0 0 v) ap) (hI2 : I (uc + 1) (us + 6) K (k3 M 3 0 0 0) ap) : st_depth I uc us K M ap o od p1 := by
  have hM : (k3 M 3 0 0 0) 3 13 0 = nI nc := by rw [k3_if, if_neg (by omega)]; exact h6
  unfold st_depth wpL_depth wpX6_depth
  refine ⟨1, 6, hu.1, hu.2, 1, 6, by omega, by omega, nd_duel h1 h2 h3 h4 h5 (fun j hj e => ?_) (fun z => ⟨by omega, by omega, rfl, ?_⟩)⟩
  · subst e
    refine ⟨by rw [h2]; exact hj, ?_⟩
    unfold wpX7_depth
    refine md_duel hM (by omega) ?_
    rw [hM, if_pos ⟨nI_pos' (by omega), nI_lt hj (by omega)⟩]
    refine ⟨fun q => absurd q (by decide), fun _ => ⟨vp_in_nI (by omega) (by omega), ?_⟩⟩
    unfold wpX7_thrown
    refine ⟨by rw [k3_if, if_pos ⟨rfl, rfl, rfl⟩], fun _ => ?_, hI2⟩
    rw [k3_if, if_neg (by omega), nI_clamp (by omega), hc j hj]
  · unfold wpX7_depth
    refine md_duel hM (by omega) ?_
    rw [hM, if_neg z]
    refine ⟨fun _ => ?_, fun q => absurd rfl q⟩
    unfold wpX7_fails wpX7_thrown
    exact ⟨by rw [k3_if, if_pos ⟨rfl, rfl, rfl⟩], fun q => absurd q (by decide), hI 1⟩
theorem s_mana {I : Nat → Nat → KS → KS → Int64 → Prop} {uc us nc q : Nat} {K M : KS} {ap o : Int64} {od : UInt64} {p1 : Int32} (h1 : K 8 2 1 = nI nc) (h2 : nD K = nc) (h3 : K 8 3 1 = nI q) (h4 : nc ≤ q ∧ q ≤ 40000) (h5 : ∀ j, j < nc → K 9 1 j = nI j) (h6 : M 3 13 0 = nI nc) (hnc : nc ≤ 8) (hs : ∀ j, j < nc → K 6 2 j = M 13 16 j) (hc : ∀ j, j < nc → K 6 2 j = 103 → K 6 4 j = M 16 19 j) (hu : uc + 2 ≤ 603072 ∧ us + 12 ≤ 7190634) (hI : ∀ v, I (uc + 2) (us + 12) K (k3 (k3 M 3 0 0 0) 3 0 0 v) ap) (hI2 : I (uc + 2) (us + 12) K (k3 M 3 0 0 0) ap) : st_mana I uc us K M ap o od p1 := by
  have hM : (k3 M 3 0 0 0) 3 13 0 = nI nc := by rw [k3_if, if_neg (by omega)]; exact h6
  have model : ∀ {post : Int32 → KS → Int64 → Prop} (_ : ∀ j, j < nc → p1 = nI j → K 6 2 j = 103 → post (K 6 4 j) (k3 M 3 0 0 0) ap) (_ : ∀ j, j < nc → p1 = nI j → ¬ K 6 2 j = 103 → post 0 (k3 (k3 M 3 0 0 0) 3 0 0 2) ap) (_ : ¬ (0 ≤ p1 ∧ p1 < nI nc) → post 0 (k3 (k3 M 3 0 0 0) 3 0 0 1) ap), wpX7_mana post M ap p1 := by
    intro post a1 a2 a3
    unfold wpX7_mana
    refine md_duel hM (by omega) ?_
    rw [hM]
    by_cases z : 0 ≤ p1 ∧ p1 < nI nc
    · rw [if_pos z]
      obtain ⟨j, hj, rfl⟩ := nI_in6 (np := nc) (by omega) z.1 z.2
      have e9 : (k3 M 3 0 0 0) 13 16 (nI j).toNatClampNeg = K 6 2 j := by rw [k3_if, if_neg (by omega), nI_clamp (by omega), hs j hj]
      refine ⟨fun _ => ⟨vp_in_nI (by omega) (by omega), fun c => ?_, fun c => ⟨vp_in_nI (by omega) (by omega), ?_⟩⟩, fun q => absurd q (by decide)⟩
      · rw [e9] at c
        exact a2 j hj rfl c
      · rw [e9] at c
        have e8 : (k3 M 3 0 0 0) 16 19 (nI j).toNatClampNeg = K 6 4 j := by rw [k3_if, if_neg (by omega), nI_clamp (by omega), hc j hj c]
        rw [e8]
        exact a1 j hj rfl c
    · rw [if_neg z]
      exact ⟨fun q => absurd rfl q, fun _ => a3 z⟩
  unfold st_mana wpL_mana wpX6_mana
  refine ⟨2, 12, hu.1, hu.2, 1, 6, by omega, by omega, nd_duel h1 h2 h3 h4 h5 (fun j hj e => ⟨by rw [h2]; exact hj, fun c => ?_, fun c => ⟨by omega, by omega, Or.inr ⟨rfl, ?_⟩⟩⟩) (fun z => ⟨by omega, by omega, Or.inl ⟨rfl, ?_⟩⟩)⟩
  · refine model (fun i hi e2 _ => ?_) (fun i hi e2 q => ?_) (fun z => absurd ⟨by rw [e]; exact nI_pos' (by omega), by rw [e]; exact nI_lt hj (by omega)⟩ z)
    · have : j = i := (nI_eq (by omega) (by omega)).mp (e.symm.trans e2)
      subst this
      exact ⟨by rw [k3_if, if_pos ⟨rfl, rfl, rfl⟩], fun _ => rfl, hI2⟩
    · have : j = i := (nI_eq (by omega) (by omega)).mp (e.symm.trans e2)
      subst this
      exact absurd c q
  · refine model (fun i hi e2 q => ?_) (fun i hi e2 q => ?_) (fun z => absurd ⟨by rw [e]; exact nI_pos' (by omega), by rw [e]; exact nI_lt hj (by omega)⟩ z)
    · have : j = i := (nI_eq (by omega) (by omega)).mp (e.symm.trans e2)
      subst this
      exact absurd q c
    · exact ⟨by rw [k3_if, if_pos ⟨rfl, rfl, rfl⟩], fun q => absurd q (by decide), hI 2⟩
  · refine model (fun i hi e2 q => ?_) (fun i hi e2 q => ?_) (fun _ => ⟨by rw [k3_if, if_pos ⟨rfl, rfl, rfl⟩], fun q => absurd q (by decide), hI 1⟩)
    · exact absurd ⟨by rw [e2]; exact nI_pos' (by omega), by rw [e2]; exact nI_lt hi (by omega)⟩ z
    · exact absurd ⟨by rw [e2]; exact nI_pos' (by omega), by rw [e2]; exact nI_lt hi (by omega)⟩ z
