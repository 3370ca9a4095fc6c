/-! What p36's law keeps of the class: the relation, with a state of the reference that nothing runs. -/
def V36 (t np nc nd no : Nat) (sn : Nat → Nat) (K : KS) : Prop := ∃ (ns P r : Nat) (cn dp ew go bl sl : Nat → Nat) (sk : Nat → Nat → Nat) (M : KS) (ap : Int64), RR t t np nc nd no ns P r cn sn dp ew ew go bl sl sk K M ap
/-- what no call but player, buy, close and rollBack changes: the sum begun with, the coins, the house -/
def SM (K K' : KS) : Prop := K' 0 2 0 = K 0 2 0 ∧ K' 10 0 = K 10 0 ∧ K' 0 3 0 = K 0 3 0
/-- what the law's call makes of the class's exceptions -/
def PX (G : Int32 → KS → Prop) (E : String) (K : KS) : Prop := (E = "java/lang/IndexOutOfBoundsException" ∧ G (-1001) K) ∨ (E = "java/lang/IllegalArgumentException" ∧ G (-1002) K) ∨ (E = "java/lang/IllegalStateException" ∧ G (-1003) K) ∨ (E = "java/lang/UnsupportedOperationException" ∧ G (-1004) K) ∨ (E = "java/util/NoSuchElementException" ∧ G (-1005) K) ∨ (E = "java/lang/ArithmeticException" ∧ G (-1006) K)
theorem xI {G : Int32 → KS → Prop} {K : KS} (h : G (-1001) K) : PX G "java/lang/IndexOutOfBoundsException" K := Or.inl ⟨rfl, h⟩
theorem xA {G : Int32 → KS → Prop} {K : KS} (h : G (-1002) K) : PX G "java/lang/IllegalArgumentException" K := Or.inr (Or.inl ⟨rfl, h⟩)
theorem xS {G : Int32 → KS → Prop} {K : KS} (h : G (-1003) K) : PX G "java/lang/IllegalStateException" K := Or.inr (Or.inr (Or.inl ⟨rfl, h⟩))
theorem xU {G : Int32 → KS → Prop} {K : KS} (h : G (-1004) K) : PX G "java/lang/UnsupportedOperationException" K := Or.inr (Or.inr (Or.inr (Or.inl ⟨rfl, h⟩)))
def QX (G : Int32 → Prop) (E : String) : Prop := (E = "java/lang/IndexOutOfBoundsException" ∧ G (-1001)) ∨ (E = "java/lang/IllegalArgumentException" ∧ G (-1002)) ∨ (E = "java/lang/IllegalStateException" ∧ G (-1003)) ∨ (E = "java/lang/UnsupportedOperationException" ∧ G (-1004)) ∨ (E = "java/util/NoSuchElementException" ∧ G (-1005)) ∨ (E = "java/lang/ArithmeticException" ∧ G (-1006))
theorem yI {G : Int32 → Prop} (h : G (-1001)) : QX G "java/lang/IndexOutOfBoundsException" := Or.inl ⟨rfl, h⟩
theorem yU {G : Int32 → Prop} (h : G (-1004)) : QX G "java/lang/UnsupportedOperationException" := Or.inr (Or.inr (Or.inr (Or.inl ⟨rfl, h⟩)))
theorem yN {G : Int32 → Prop} (h : G (-1005)) : QX G "java/util/NoSuchElementException" := Or.inr (Or.inr (Or.inr (Or.inr (Or.inl ⟨rfl, h⟩))))
theorem inv_0 : V36 0 0 0 0 0 (fun _ => 0) K00 := by
  refine ⟨0, 0, 216, fun _ => 0, fun _ => 0, fun _ => 0, fun _ => 0, fun _ => 0, fun _ => 0, fun _ _ => 0, M00, 0, ?_⟩
  have hz : ∀ b R, refB (kpB (fun _ => 0)) (fun _ => 0) b R = 0 := by
    intro b R
    induction R with
    | zero => rfl
    | succ R ih =>
      show refB _ _ b R + _ = 0
      rw [ih, if_neg (fun q => absurd (of_decide_eq_true (show decide (R / 6 % 6 < 0) = true from q.1)) (Nat.not_lt_zero _))]
  have hl : lcp 0 0 := ⟨0, rfl, Nat.le_refl _, Nat.zero_le _, Or.inl rfl⟩
  unfold RR
  refine ⟨rfl, rfl, by decide, rfl, rfl, rfl, by decide, rfl, rfl, rfl, by decide, rfl, rfl, rfl, by decide, rfl, rfl, by decide, hl, hl, hl, hl, ?_⟩
  refine ⟨fun j h => absurd h (Nat.not_lt_zero j), fun j h => absurd h (Nat.not_lt_zero j), fun j h => absurd h (Nat.not_lt_zero j), fun j h => absurd h (Nat.not_lt_zero j), rfl, rfl, by decide, ⟨by decide, by decide⟩, ?_⟩
  refine ⟨fun j h => absurd h (Nat.not_lt_zero j), fun j h => absurd h (Nat.not_lt_zero j), fun j h => absurd h (Nat.not_lt_zero j), fun j h => absurd h (Nat.not_lt_zero j), fun j h => absurd h (Nat.not_lt_zero j), fun j h => absurd h (Nat.not_lt_zero j), fun j h => absurd h (Nat.not_lt_zero j), rfl, rfl, rfl, Or.inl rfl, by decide, fun j h => absurd h (Nat.not_lt_zero j), fun j h => absurd h (Nat.not_lt_zero j), by decide, Or.inr (by decide), ?_⟩
  refine ⟨fun j h => absurd h (Nat.not_lt_zero j), fun j h => absurd h (Nat.not_lt_zero j), fun j h => absurd h (Nat.not_lt_zero j), fun j h => absurd h (Nat.not_lt_zero j), fun j h => absurd h (Nat.not_lt_zero j), fun j h => absurd h (Nat.not_lt_zero j), fun j h => absurd h (Nat.not_lt_zero j), fun j h => absurd h (Nat.not_lt_zero j), fun j h => absurd h (Nat.not_lt_zero j), fun j h => absurd h (Nat.not_lt_zero j), fun j h => absurd h (Nat.not_lt_zero j), fun j h => absurd h (Nat.not_lt_zero j), fun j h => absurd h (Nat.not_lt_zero j), fun j h => absurd h (Nat.not_lt_zero j), fun j h => absurd h (Nat.not_lt_zero j), ?_⟩
  refine ⟨fun d _ _ => ⟨rfl, rfl, rfl, rfl, fun i _ => rfl⟩, fun d _ => ⟨rfl, Nat.zero_le _, fun _ => rfl, fun _ => rfl⟩, fun j h => absurd h (Nat.not_lt_zero j), ⟨fun R _ q => absurd (of_decide_eq_true (show decide (R / 6 % 6 < 0) = true from q)) (Nat.not_lt_zero _), fun b _ => by rw [hz]; rfl, fun b b2 _ _ q => absurd q (by rw [hz]; decide)⟩, fun j h => absurd h (Nat.not_lt_zero j), fun j h => absurd h (Nat.not_lt_zero j), ?_⟩
  exact ⟨fun j h => absurd h (Nat.not_lt_zero j), fun j h => absurd h (Nat.not_lt_zero j), fun j h => absurd h (Nat.not_lt_zero j), fun j h => absurd h (Nat.not_lt_zero j), fun j h => absurd h (Nat.not_lt_zero j), fun j h => absurd h (Nat.not_lt_zero j), fun j h => absurd h (Nat.not_lt_zero j), fun j h => absurd h (Nat.not_lt_zero j), fun j h => absurd h (Nat.not_lt_zero j), fun j h => absurd h (Nat.not_lt_zero j)⟩
