/-! The pure part begins: look-ups in states, tests of the two sides. -/
theorem k3_if (K : KS) (a b c : Nat) (v : Int32) (a' b' c' : Nat) : k3 K a b c v a' b' c' = if a' = a ∧ b' = b ∧ c' = c then v else K a' b' c' := by
  by_cases h1 : a' = a
  · subst h1
    by_cases h2 : b' = b
    · subst h2
      by_cases h3 : c' = c
      · subst h3
        rw [k3_s, if_pos ⟨rfl, rfl, rfl⟩]
      · rw [k3_c _ _ h3, if_neg (fun z => h3 z.2.2)]
    · rw [k3_b _ _ h2, if_neg (fun z => h2 z.2.1)]
  · rw [k3_a _ _ h1, if_neg (fun z => h1 z.1)]
/-- needPlayer: a player's number goes on, any other throws -/
theorem nd_player {post : Unit → Prop} {px : String → Prop} {mc ms : Nat} {K : KS} {p1 : Int32} (h1 : 0 ≤ p1 ∧ p1 < K 0 1 0 → post ()) (h2 : ¬ (0 ≤ p1 ∧ p1 < K 0 1 0) → 1 ≤ mc ∧ 6 ≤ ms ∧ px "java/lang/IndexOutOfBoundsException") : wpX6_needPlayer post px mc ms K p1 := by
  unfold wpX6_needPlayer
  refine ⟨fun c => ?_, fun c => ⟨fun d => h1 ⟨Int32.not_lt.mp c, d⟩, fun d => ?_⟩⟩
  · have := h2 (fun z => Int32.not_le.mpr c z.1)
    exact ⟨by omega, by omega, this.2.2⟩
  · have := h2 (fun z => d z.2)
    exact ⟨by omega, by omega, this.2.2⟩
theorem nI_in6 {np : Nat} {p1 : Int32} (hnp : np ≤ 100) (h0 : 0 ≤ p1) (h1 : p1 < nI np) : ∃ j : Nat, j < np ∧ p1 = nI j := by
  obtain ⟨j, hj, rfl⟩ := nI_of (Int32.not_lt.mpr h0)
  exact ⟨j, (nI_ltI hj (by omega)).mp h1, rfl⟩
/-- cardAt: a card's number goes on with the card, any other throws -/
theorem nd_card {post : Nat → Prop} {px : String → Prop} {mc ms nc q : Nat} {K : KS} {p1 : Int32} (h1 : K 8 2 0 = nI nc) (h2 : nC K = nc) (h3 : K 8 3 0 = nI q) (h4 : nc ≤ q ∧ q ≤ 40000) (h5 : ∀ j, j < nc → K 9 0 j = nI j) (hok : ∀ j, j < nc → p1 = nI j → post j) (hx : ¬ (0 ≤ p1 ∧ p1 < nI nc) → 1 ≤ mc ∧ 6 ≤ ms ∧ px "java/lang/IndexOutOfBoundsException") : wpX6_cardAt post px mc ms K p1 := by
  unfold wpX6_cardAt
  refine ⟨fun c => ?_, fun c => ⟨fun d => ?_, fun d => ?_⟩⟩
  · have := hx (fun z => Int32.not_le.mpr c z.1)
    exact ⟨by omega, by omega, this.2.2⟩
  · rw [h1] at d
    obtain ⟨j, hj, rfl⟩ := nI_of c
    have hjn : j < nc := (nI_ltI hj (by omega)).mp d
    have e : (K 9 0 (nI j).toNatClampNeg).toNatClampNeg = j := by rw [nI_clamp hj, h5 j hjn, nI_clamp hj]
    refine ⟨⟨c, by rw [h1]; exact d, ?_, ?_⟩, ?_, ?_⟩
    · rw [h3]
      exact nI_ne0 (by omega) (by omega)
    · rw [h1, h3, nI_clamp (by omega), nI_clamp (by omega)]
      exact h4.1
    · rw [e, h2]
      exact hjn
    · rw [e]
      exact hok j hjn rfl
  · have := hx (fun z => d (by rw [h1]; exact z.2))
    exact ⟨by omega, by omega, this.2.2⟩
def kPlayer (K : KS) (v : Int32) : KS := k3 (k3 (k3 K 10 0 (K 0 1 0).toNatClampNeg v) 0 2 0 (K 0 2 0 + v)) 0 1 0 (K 0 1 0 + 1)
def mPlayer (M : KS) (v : Int32) : KS := k3 (k3 (k3 M 3 0 0 0) 16 2 (M 3 1 0).toNatClampNeg v) 3 1 0 (M 3 1 0 + 1)
def foldC (f : Nat → Int32) (p : Int32) : Nat → Nat → Int32 → Int32
  | _, 0, acc => acc
  | i, r + 1, acc => foldC f p (i + 1) r (if f i = p then acc + 1 else acc)
/-- the class's loop of cardsOf, as the pattern of a loop: the fuel is what is left and one -/
theorem cl_cardsOf {post : Int32 → Prop} {px : String → Prop} {mc ms nc q : Nat} {K : KS} {p : Int32} (h1 : K 8 2 0 = nI nc) (h2 : nC K = nc) (h3 : K 8 3 0 = nI q) (h4 : nc ≤ q ∧ q ≤ 40000) (h5 : ∀ j, j < nc → K 9 0 j = nI j) : ∀ (r i uc us : Nat) (acc : Int32), i + r = nc → post (foldC (fun j => K 4 2 j) p i r acc) → wX6_cardsOf_9 post px mc ms (r + 1) uc us p acc (nI i) K := by
  intro r
  induction r with
  | zero =>
    intro i uc us acc hi h
    unfold wX6_cardsOf_9
    exact ⟨fun _ => h, fun c => absurd (by rw [h1]; exact nI_le (by omega) (by omega)) c⟩
  | succ r ih =>
    intro i uc us acc hi h
    have hin : i < nc := by omega
    have e : (K 9 0 (nI i).toNatClampNeg).toNatClampNeg = i := by rw [nI_clamp (by omega), h5 i hin, nI_clamp (by omega)]
    unfold wX6_cardsOf_9
    refine ⟨fun c => absurd (by rw [← h1]; exact c) (nI_ge hin (by omega)), fun _ => ⟨⟨nI_pos (by omega), by rw [h1]; exact nI_lt hin (by omega), by rw [h3]; exact nI_ne0 (by omega) (by omega), by rw [h1, h3, nI_clamp (by omega), nI_clamp (by omega)]; exact h4.1⟩, by rw [e, h2]; exact hin, fun c => ?_, fun c => ?_⟩⟩
    · rw [e] at c
      unfold wX6_cardsOf_41
      rw [nI_1]
      refine ih (i + 1) uc us acc (by omega) ?_
      simp only [foldC] at h
      rw [if_neg c] at h
      exact h
    · rw [e] at c
      unfold wX6_cardsOf_41
      rw [nI_1]
      refine ih (i + 1) uc us (acc + 1) (by omega) ?_
      simp only [foldC] at h
      rw [if_pos c] at h
      exact h
theorem foldC_eq {f g : Nat → Int32} {p : Int32} {n : Nat} (h : ∀ j, j < n → f j = g j) : ∀ (r i : Nat) (acc : Int32), i + r = n → foldC f p i r acc = foldC g p i r acc := by
  intro r
  induction r with
  | zero => intro i acc hi; rfl
  | succ r ih =>
    intro i acc hi
    simp only [foldC]
    rw [h i (by omega)]
    exact ih (i + 1) _ (by omega)
theorem nd_duel {post : Nat → Prop} {px : String → Prop} {mc ms nc q : Nat} {K : KS} {p1 : Int32} (h1 : K 8 2 1 = nI nc) (h2 : nD K = nc) (h3 : K 8 3 1 = nI q) (h4 : nc ≤ q ∧ q ≤ 40000) (h5 : ∀ j, j < nc → K 9 1 j = nI j) (hok : ∀ j, j < nc → p1 = nI j → post j) (hx : ¬ (0 ≤ p1 ∧ p1 < nI nc) → 1 ≤ mc ∧ 6 ≤ ms ∧ px "java/lang/IndexOutOfBoundsException") : wpX6_duelAt post px mc ms K p1 := by
  unfold wpX6_duelAt
  refine ⟨fun c => ?_, fun c => ⟨fun d => ?_, fun d => ?_⟩⟩
  · have := hx (fun z => Int32.not_le.mpr c z.1)
    exact ⟨by omega, by omega, this.2.2⟩
  · rw [h1] at d
    obtain ⟨j, hj, rfl⟩ := nI_of c
    have hjn : j < nc := (nI_ltI hj (by omega)).mp d
    have e : (K 9 1 (nI j).toNatClampNeg).toNatClampNeg = j := by rw [nI_clamp hj, h5 j hjn, nI_clamp hj]
    refine ⟨⟨c, by rw [h1]; exact d, ?_, ?_⟩, ?_, ?_⟩
    · rw [h3]
      exact nI_ne0 (by omega) (by omega)
    · rw [h1, h3, nI_clamp (by omega), nI_clamp (by omega)]
      exact h4.1
    · rw [e, h2]
      exact hjn
    · rw [e]
      exact hok j hjn rfl
  · have := hx (fun z => d (by rw [h1]; exact z.2))
    exact ⟨by omega, by omega, this.2.2⟩
theorem nd_offer {post : Nat → Prop} {px : String → Prop} {mc ms nc q : Nat} {K : KS} {p1 : Int32} (h1 : K 8 2 2 = nI nc) (h2 : nO K = nc) (h3 : K 8 3 2 = nI q) (h4 : nc ≤ q ∧ q ≤ 40000) (h5 : ∀ j, j < nc → K 9 2 j = nI j) (hok : ∀ j, j < nc → p1 = nI j → post j) (hx : ¬ (0 ≤ p1 ∧ p1 < nI nc) → 1 ≤ mc ∧ 6 ≤ ms ∧ px "java/lang/IndexOutOfBoundsException") : wpX6_offerAt post px mc ms K p1 := by
  unfold wpX6_offerAt
  refine ⟨fun c => ?_, fun c => ⟨fun d => ?_, fun d => ?_⟩⟩
  · have := hx (fun z => Int32.not_le.mpr c z.1)
    exact ⟨by omega, by omega, this.2.2⟩
  · rw [h1] at d
    obtain ⟨j, hj, rfl⟩ := nI_of c
    have hjn : j < nc := (nI_ltI hj (by omega)).mp d
    have e : (K 9 2 (nI j).toNatClampNeg).toNatClampNeg = j := by rw [nI_clamp hj, h5 j hjn, nI_clamp hj]
    refine ⟨⟨c, by rw [h1]; exact d, ?_, ?_⟩, ?_, ?_⟩
    · rw [h3]
      exact nI_ne0 (by omega) (by omega)
    · rw [h1, h3, nI_clamp (by omega), nI_clamp (by omega)]
      exact h4.1
    · rw [e, h2]
      exact hjn
    · rw [e]
      exact hok j hjn rfl
  · have := hx (fun z => d (by rw [h1]; exact z.2))
    exact ⟨by omega, by omega, this.2.2⟩
