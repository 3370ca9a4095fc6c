/-! Restakes, the reference's loops. -/
def mR (M : KS) (st : Nat → Int32) (p : (Nat → Int32) × (Nat → Int32)) : KS := kr (kr (kr M 13 8 st) 13 32 p.1) 16 10 p.2
theorem mR_8 {M : KS} {st : Nat → Int32} {p : (Nat → Int32) × (Nat → Int32)} {x : LXp} {c : Nat} {v : Int32} : k3 (mH (mR M st p) x) 13 8 c v = mH (mR M (va_up st c v) p) x := by
  show kr (mH (mR M st p) x) 13 8 (va_up st c v) = _
  rw [mH_sw _ (by omega) (by omega) (by omega)]
  congr 1
  unfold mR kr va_up
  funext a b y
  grind
theorem mR_10 {M : KS} {st : Nat → Int32} {f g : Nat → Int32} {x : LXp} {c k : Nat} {v w : Int32} : k3 (k3 (mH (mR M st (f, g)) x) 13 32 k v) 16 10 c w = mH (mR M st (va_up f k v, va_up g c w)) x := by
  show kr (kr (mH (mR M st (f, g)) x) 13 32 (va_up f k v)) 16 10 (va_up g c w) = _
  rw [mH_sw _ (by omega) (by omega) (by omega), mH_sw _ (by omega) (by omega) (by omega)]
  congr 1
  unfold mR kr va_up
  funext a b y
  grind
def qS (c : Nat) (p : (Nat → Int32) × (Nat → Int32)) : (Nat → Int32) × (Nat → Int32) := if p.2 c = -1 then p else (va_up p.1 (p.2 c).toNatClampNeg 103, va_up p.2 c (-1))
def qF (sk : Nat → Nat) : Nat → Nat → (Nat → Int32) × (Nat → Int32) → (Nat → Int32) × (Nat → Int32)
  | _, 0, p => p
  | i, m + 1, p => qF sk (i + 1) m (qS (sk i) p)
def qOK (n : Nat) (p : (Nat → Int32) × (Nat → Int32)) : Prop := ∀ c, c < n → p.2 c = -1 ∨ ∃ k, k < 60 ∧ p.2 c = nI k
theorem qS_ok {c nq : Nat} {p : (Nat → Int32) × (Nat → Int32)} (h : qOK nq p) : qOK nq (qS c p) := by
  intro x hx
  unfold qS
  by_cases q : p.2 c = -1
  · rw [if_pos q]
    exact h x hx
  · rw [if_neg q]
    show va_up p.2 c (-1) x = -1 ∨ ∃ k, k < 60 ∧ va_up p.2 c (-1) x = nI k
    rw [up_if]
    by_cases z : x = c
    · rw [if_pos z]
      exact Or.inl rfl
    · rw [if_neg z]
      exact h x hx
