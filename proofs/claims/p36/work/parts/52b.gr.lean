/-! Rows of the reference behind a rollback, known to be there. -/
theorem gR_ex (M : KS) (d s : Nat) : ∃ g g2, gR M d s 16 g g2 := by
  refine ⟨fun j => if 16 * d ≤ j ∧ j < 16 * d + 16 then M 16 27 (24 * (6 * d + s) + (4 + (j - 16 * d))) else M 16 23 j, fun j => if 16 * d ≤ j ∧ j < 16 * d + 16 then M 16 28 (16 * (6 * d + s) + (j - 16 * d)) else M 16 25 j, fun i hi => ⟨?_, ?_⟩, fun j hj => ⟨?_, ?_⟩⟩
  · show (if 16 * d ≤ 16 * d + i ∧ 16 * d + i < 16 * d + 16 then M 16 27 (24 * (6 * d + s) + (4 + (16 * d + i - 16 * d))) else M 16 23 (16 * d + i)) = _
    rw [if_pos ⟨by omega, by omega⟩, show 16 * d + i - 16 * d = i by omega]
  · show (if 16 * d ≤ 16 * d + i ∧ 16 * d + i < 16 * d + 16 then M 16 28 (16 * (6 * d + s) + (16 * d + i - 16 * d)) else M 16 25 (16 * d + i)) = _
    rw [if_pos ⟨by omega, by omega⟩, show 16 * d + i - 16 * d = i by omega]
  · show (if 16 * d ≤ j ∧ j < 16 * d + 16 then _ else M 16 23 j) = _
    rw [if_neg (by omega)]
  · show (if 16 * d ≤ j ∧ j < 16 * d + 16 then _ else M 16 25 j) = _
    rw [if_neg (by omega)]
