/-! The reference's half of it, and the relation behind it. -/
def mP (M : KS) (g g2 : Nat → Int32) : KS := kr (kr M 16 23 g) 16 25 g2
theorem mP_23 (M : KS) (g g2 : Nat → Int32) (i : Nat) (v : Int32) : k3 (mP M g g2) 16 23 i v = mP M (va_up g i v) g2 := by
  show kr (kr (kr M 16 23 g) 16 25 g2) 16 23 (va_up g i v) = _
  rw [kr_sw _ g2 _ (by omega), kr_kr]
  rfl
theorem mP_25 (M : KS) (g g2 : Nat → Int32) (i : Nat) (v : Int32) : k3 (mP M g g2) 16 25 i v = mP M g (va_up g2 i v) := by
  show kr (kr (kr M 16 23 g) 16 25 g2) 16 25 (va_up g2 i v) = _
  rw [kr_kr]
  rfl
def mS6 (M : KS) (d s : Nat) : KS := k3 (k3 (k3 (k3 (k3 (k3 M 13 16 d 103) 16 18 (2 * d) (M 16 27 (24 * (6 * d + s)))) 16 18 (2 * d + 1) (M 16 27 (24 * (6 * d + s) + 1))) 16 19 d (M 16 27 (24 * (6 * d + s) + 2))) 16 20 d (M 16 27 (24 * (6 * d + s) + 3))) 16 24 d (M 16 27 (24 * (6 * d + s) + 20))
def gR (M : KS) (d s k : Nat) (g g2 : Nat → Int32) : Prop := (∀ i, i < k → g (16 * d + i) = M 16 27 (24 * (6 * d + s) + (4 + i)) ∧ g2 (16 * d + i) = M 16 28 (16 * (6 * d + s) + i)) ∧ ∀ j, (j < 16 * d ∨ 16 * d + 16 ≤ j) → g j = M 16 23 j ∧ g2 j = M 16 25 j
theorem rS_life (K : KS) (d s x : Nat) : rS K d s 7 1 x = if x = 2 * d + 1 then K 10 1 1 else if x = 2 * d then K 10 1 0 else K 7 1 x := by
  show va_up (va_up (K 7 1) (2 * d) (K 10 1 0)) (2 * d + 1) (K 10 1 1) x = _
  rw [up_if, up_if]
theorem rS_plays (K : KS) (d s x i : Nat) (hi : i < 8) : rS K d s 18 x i = if x = 2 * d then K 10 1 (4 + i) else if x = 2 * d + 1 then K 10 1 (12 + i) else K 18 x i := by
  have e5 : ∀ y, rS5 K d 18 y = if y = 2 * d then va_cpy (K 10 1) (K 18 (2 * d)) 4 0 8 else K 18 y := fun y => by
    show va_up (K 18) (2 * d) (va_cpy (K 10 1) (K 18 (2 * d)) 4 0 8) y = _
    rw [up_if]
  have e6 : rS K d s 18 x = if x = 2 * d + 1 then va_cpy (K 10 1) (rS5 K d 18 (2 * d + 1)) 12 0 8 else rS5 K d 18 x := by
    show va_up (rS5 K d 18) (2 * d + 1) (va_cpy (K 10 1) (rS5 K d 18 (2 * d + 1)) 12 0 8) x = _
    rw [up_if]
  rw [e6]
  by_cases z : x = 2 * d
  · rw [if_neg (by omega), if_pos z, e5, if_pos z]
    unfold va_cpy
    rw [if_pos ⟨by omega, by omega⟩]
    rfl
  · rw [if_neg z]
    by_cases w : x = 2 * d + 1
    · rw [if_pos w, if_pos w]
      unfold va_cpy
      rw [if_pos ⟨by omega, by omega⟩]
      rfl
    · rw [if_neg w, if_neg w, e5, if_neg z]
theorem rS_stack (K : KS) (d s x i : Nat) (hi : i < 8) : rS K d s 17 x i = if x = d then K 20 (6 * d + s) i else K 17 x i := by
  have e : rS K d s 17 x = if x = d then va_cpy (K 20 (6 * d + s)) (K 17 d) 0 0 8 else K 17 x := by
    show va_up (K 17) d (va_cpy (K 20 (6 * d + s)) (K 17 d) 0 0 8) x = _
    rw [up_if]
  rw [e]
  by_cases z : x = d
  · rw [if_pos z, if_pos z]
    unfold va_cpy
    rw [if_pos ⟨by omega, by omega⟩]
    congr 1
    omega
  · rw [if_neg z, if_neg z]

