/-! The calls that only read. -/
theorem nC_of {K : KS} {n : Nat} (h : K 0 20 0 = nI n) (hn : n ≤ 1000) : nC K = n := by unfold nC; rw [h, nI_clamp (by omega)]
theorem nO_of {K : KS} {n : Nat} (h : K 0 21 0 = nI n) (hn : n ≤ 1000) : nO K = n := by unfold nO; rw [h, nI_clamp (by omega)]
theorem nD_of {K : KS} {n : Nat} (h : K 0 22 0 = nI n) (hn : n ≤ 1000) : nD K = n := by unfold nD; rw [h, nI_clamp (by omega)]
theorem ok_get {K : KS} {n cnt j : Nat} (h1 : K 8 2 n = nI cnt) (h2 : lcp (K 8 3 n) cnt) (hc : cnt ≤ 1000) (hj : j < cnt) : okGet K n (nI j) := by
  obtain ⟨q, e, a1, a2, a3⟩ := h2
  unfold okGet
  rw [h1, e]
  exact ⟨nI_pos (by omega), nI_lt hj (by omega), nI_ne0 (by omega) (by omega), by rw [nI_clamp (by omega), nI_clamp (by omega)]; exact a1⟩
/-- cardAt, duelAt, offerAt over the lists' capacity -/
theorem at_card {post : Nat → Prop} {px : String → Prop} {mc ms nc : Nat} {K : KS} {p1 : Int32} (h1 : K 8 2 0 = nI nc) (h2 : K 0 20 0 = nI nc) (h3 : lcp (K 8 3 0) nc) (h4 : nc ≤ 40) (h5 : ∀ j, j < nc → K 9 0 j = nI j) (hok : ∀ j, j < nc → p1 = nI j → post j) (hx : ¬ (0 ≤ p1 ∧ p1 < nI nc) → 1 ≤ mc ∧ 6 ≤ ms ∧ px "java/lang/IndexOutOfBoundsException") : wpX6_cardAt post px mc ms K p1 := by
  obtain ⟨q, q1, q2, q3, q4⟩ := h3
  exact nd_card h1 (nC_of h2 (by omega)) q1 ⟨q2, by omega⟩ h5 hok hx
theorem at_duel {post : Nat → Prop} {px : String → Prop} {mc ms nc : Nat} {K : KS} {p1 : Int32} (h1 : K 8 2 1 = nI nc) (h2 : K 0 22 0 = nI nc) (h3 : lcp (K 8 3 1) nc) (h4 : nc ≤ 8) (h5 : ∀ j, j < nc → K 9 1 j = nI j) (hok : ∀ j, j < nc → p1 = nI j → post j) (hx : ¬ (0 ≤ p1 ∧ p1 < nI nc) → 1 ≤ mc ∧ 6 ≤ ms ∧ px "java/lang/IndexOutOfBoundsException") : wpX6_duelAt post px mc ms K p1 := by
  obtain ⟨q, q1, q2, q3, q4⟩ := h3
  exact nd_duel h1 (nD_of h2 (by omega)) q1 ⟨q2, by omega⟩ h5 hok hx
theorem at_offer {post : Nat → Prop} {px : String → Prop} {mc ms nc : Nat} {K : KS} {p1 : Int32} (h1 : K 8 2 2 = nI nc) (h2 : K 0 21 0 = nI nc) (h3 : lcp (K 8 3 2) nc) (h4 : nc ≤ 60) (h5 : ∀ j, j < nc → K 9 2 j = nI j) (hok : ∀ j, j < nc → p1 = nI j → post j) (hx : ¬ (0 ≤ p1 ∧ p1 < nI nc) → 1 ≤ mc ∧ 6 ≤ ms ∧ px "java/lang/IndexOutOfBoundsException") : wpX6_offerAt post px mc ms K p1 := by
  obtain ⟨q, q1, q2, q3, q4⟩ := h3
  exact nd_offer h1 (nO_of h2 (by omega)) q1 ⟨q2, by omega⟩ h5 hok hx
theorem in_nI {n j : Nat} (hj : j < n) (hn : n < 2 ^ 31) : 0 ≤ nI j ∧ nI j < nI n := ⟨nI_pos' (by omega), nI_lt hj hn⟩
theorem phv_char (a b : Nat) : narrow .char (.int (phv a b)) = .int (phv a b) := by
  unfold phv
  split <;> split <;> rfl
/-- numberAt within the row -/
theorem na_ok {post : Int32 → Prop} {K : KS} {r j : Nat} (h : K 1 5 0 = nI r) (hr : r ≤ 13824) (hj : j < r) (hp : post (K 11 0 j)) : wpX3_numberAt post K (nI j) := by
  unfold wpX3_numberAt
  refine ⟨fun q => absurd q (nI_pos (by omega)), fun _ => ⟨fun q => ?_, fun _ => ⟨?_, ?_⟩⟩⟩
  · rw [h, nI_clamp (by omega)] at q
    exact absurd q (nI_ge hj (by omega))
  · rw [h, nI_clamp (by omega)]
    exact vp_in_nI hj (by omega)
  · rw [nI_clamp (by omega)]
    exact hp
theorem rOK_le {r : Nat} (h : rOK r) : 216 ≤ r ∧ r ≤ 13824 := by
  unfold rOK at h
  omega
theorem cl_last {post : Int32 → Prop} {K : KS} {r P : Nat} {v : Int32} (h : K 1 5 0 = nI r) (hr : r ≤ 13824) (hP : 3 * P ≤ r) : ∀ m, m ≤ P → post (lastH (K 11 0) v m) → wX3_lastHolder_7 post (m + 1) v (nI m - 1) K := by
  intro m
  induction m with
  | zero =>
    intro _ hp
    unfold wX3_lastHolder_7
    exact ⟨fun _ => hp, fun c => absurd (by decide) c⟩
  | succ m ih =>
    intro hm hp
    have hp2 : post (if K 11 0 (3 * m) = v then K 11 0 (3 * m + 2) else lastH (K 11 0) v m) := hp
    rw [nI_pred]
    have e1 : (3 : Int32) * nI m = nI (3 * m) := nI_mul 3 m
    have e2 : nI (3 * m) + 2 = nI (3 * m + 2) := nI_add (3 * m) 2
    have e3 : nI m + (-1) = nI m - 1 := (Int32.sub_eq_add_neg _ _).symm
    unfold wX3_lastHolder_7 wpX3_cardIn wpX3_takerIn
    refine ⟨fun c => absurd c (nI_pos (by omega)), fun _ => ?_⟩
    rw [e1, e2, e3]
    refine na_ok h hr (by omega) ⟨fun c => ?_, fun c => ?_⟩
    · rw [if_neg c] at hp2
      exact ih (by omega) hp2
    · rw [if_pos c] at hp2
      exact na_ok h hr (by omega) hp2
