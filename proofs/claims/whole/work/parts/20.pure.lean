/-! The pure part begins: look-ups in states, tests of the two sides. -/
theorem k3_if (K : KS) (a b c : Nat) (v : Int32) (a' b' c' : Nat) : k3 K a b c v a' b' c' = if a' = a ∧ b' = b ∧ c' = c then v else K a' b' c' := by
  by_cases h1 : a' = a
  · subst h1
    by_cases h2 : b' = b
    · subst h2
      by_cases h3 : c' = c
      · subst h3
        rw [k3_s, if_pos ⟨rfl, rfl, rfl⟩]
      · rw [k3_c _ _ h3, if_neg (fun z => h3 z.2.2)]
    · rw [k3_b _ _ h2, if_neg (fun z => h2 z.2.1)]
  · rw [k3_a _ _ h1, if_neg (fun z => h1 z.1)]
/-- needPlayer: a player's number goes on, any other throws -/
theorem nd_player {post : Unit → Prop} {px : String → Prop} {mc ms : Nat} {K : KS} {p1 : Int32} (h1 : 0 ≤ p1 ∧ p1 < K 0 1 0 → post ()) (h2 : ¬ (0 ≤ p1 ∧ p1 < K 0 1 0) → 1 ≤ mc ∧ 6 ≤ ms ∧ px "java/lang/IndexOutOfBoundsException") : wpX6_needPlayer post px mc ms K p1 := by
  unfold wpX6_needPlayer
  refine ⟨fun c => ?_, fun c => ⟨fun d => h1 ⟨Int32.not_lt.mp c, d⟩, fun d => ?_⟩⟩
  · have := h2 (fun z => Int32.not_le.mpr c z.1)
    exact ⟨by omega, by omega, this.2.2⟩
  · have := h2 (fun z => d z.2)
    exact ⟨by omega, by omega, this.2.2⟩
/-- the reference's test of a player's number -/
theorem md_player {post : Int32 → Prop} {M : KS} {ap : Int64} {p1 : Int32} {n : Nat} (hn : M 3 1 0 = nI n) (hn2 : n < 100) (h : post (if 0 ≤ p1 ∧ p1 < M 3 1 0 then 1 else 0)) : wpX7_isPlayer post M ap p1 := by
  have key : M 3 1 0 - 1 < p1 ↔ ¬ p1 < M 3 1 0 := by
    rw [hn, Int32.lt_iff_toInt_lt, Int32.lt_iff_toInt_lt, Int32.toInt_sub, nI_toInt (by omega), show (1 : Int32).toInt = 1 from rfl, Int.bmod_eq_of_le (by omega) (by omega)]
    omega
  unfold wpX7_isPlayer wpX7_in
  refine ⟨fun c => ⟨rfl, ?_⟩, fun c => ⟨fun d => ⟨rfl, ?_⟩, fun d => ⟨rfl, ?_⟩⟩⟩
  · rw [if_neg (fun z => Int32.not_le.mpr c z.1)] at h
    exact h
  · rw [if_neg (fun z => key.mp d z.2)] at h
    exact h
  · rw [if_pos ⟨Int32.not_lt.mp c, Classical.byContradiction fun z => d (key.mpr z)⟩] at h
    exact h
