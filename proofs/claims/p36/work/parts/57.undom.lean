/-! Sales undone: the reference's loops. -/
def sE (K : KS) (d : Nat) (sl : Nat → Nat) (f : Nat → Int32) : Nat → (Nat → Int32)
  | 0 => f
  | j + 1 => if K 5 5 (sl j) = nI d then va_up (sE K d sl f j) (sl j) 103 else sE K d sl f j
theorem sE_sF (K : KS) (d : Nat) (sl : Nat → Nat) : ∀ n, sF K d sl n = sE K d sl (K 5 4) n := by
  intro n
  induction n with
  | zero => rfl
  | succ n ih =>
    show (if K 5 5 (sl n) = nI d then va_up (sF K d sl n) (sl n) 103 else sF K d sl n) = (if K 5 5 (sl n) = nI d then va_up (sE K d sl (K 5 4) n) (sl n) 103 else sE K d sl (K 5 4) n)
    rw [ih]
theorem sE_same {K : KS} {d : Nat} {sl : Nat → Nat} {f : Nat → Int32} {k : Nat} : ∀ n, (∀ j, j < n → sl j ≠ k) → sE K d sl f n k = f k := by
  intro n
  induction n with
  | zero => intro _; rfl
  | succ n ih =>
    intro h
    show (if K 5 5 (sl n) = nI d then va_up (sE K d sl f n) (sl n) 103 else sE K d sl f n) k = _
    by_cases q : K 5 5 (sl n) = nI d
    · rw [if_pos q, up_if, if_neg (fun z => h n (by omega) z.symm)]
      exact ih (fun j hj => h j (by omega))
    · rw [if_neg q]
      exact ih (fun j hj => h j (by omega))
theorem sE_not {K : KS} {d : Nat} {sl : Nat → Nat} {f : Nat → Int32} {k : Nat} (hk : ¬ K 5 5 k = nI d) : ∀ n, sE K d sl f n k = f k := by
  intro n
  induction n with
  | zero => rfl
  | succ n ih =>
    show (if K 5 5 (sl n) = nI d then va_up (sE K d sl f n) (sl n) 103 else sE K d sl f n) k = _
    by_cases q : K 5 5 (sl n) = nI d
    · rw [if_pos q, up_if, if_neg (fun z => hk (by rw [z]; exact q))]
      exact ih
    · rw [if_neg q]
      exact ih
theorem sE_hit {K : KS} {d : Nat} {sl : Nat → Nat} {f : Nat → Int32} {k : Nat} (hk : K 5 5 k = nI d) : ∀ n, (∃ j, j < n ∧ sl j = k) → sE K d sl f n k = 103 := by
  intro n
  induction n with
  | zero =>
    intro h
    obtain ⟨j, h1, _⟩ := h
    omega
  | succ n ih =>
    intro h
    show (if K 5 5 (sl n) = nI d then va_up (sE K d sl f n) (sl n) 103 else sE K d sl f n) k = _
    by_cases z : k = sl n
    · rw [if_pos (by rw [← z]; exact hk), up_if, if_pos z]
    · obtain ⟨j, h1, h2⟩ := h
      have hj : ∃ j, j < n ∧ sl j = k := ⟨j, by
        rcases (by omega : j < n ∨ j = n) with w | w
        · exact w
        · rw [w] at h2
          exact absurd h2.symm z, h2⟩
      by_cases q : K 5 5 (sl n) = nI d
      · rw [if_pos q, up_if, if_neg z]
        exact ih hj
      · rw [if_neg q]
        exact ih hj
def cR (M K : KS) (d : Nat) (sl : Nat → Nat) (j : Nat) : Nat → Int32 := fun p => M 16 2 p + sumI (fun i => fBu K d p (sl i)) j
def mV (M K : KS) (d : Nat) (sl : Nat → Nat) (j : Nat) : KS := kr (kr M 13 32 (sE K d sl (M 13 32) j)) 16 2 (cR M K d sl j)
theorem uN_mono (K : KS) (d : Nat) (sl : Nat → Nat) (i : Nat) : ∀ m, uN K d sl i ≤ uN K d sl (i + m) := by
  intro m
  induction m with
  | zero => exact Nat.le_refl _
  | succ m ih => exact Nat.le_trans ih (Nat.le_add_right _ _)
theorem fsum2 {K : KS} {d no : Nat} {sl : Nat → Nat} (h : ∀ k, k < no → ∃ x, x ≤ 999 ∧ K 5 1 k = nI x) (hno : no ≤ 60) : ∀ i, i ≤ 60 → (∀ j, j < i → sl j < no) → 0 ≤ (sumI (fun i => fPr K d (sl i)) i).toInt ∧ (sumI (fun i => fPr K d (sl i)) i).toInt ≤ 999 * (i : Int) := by
  intro i
  induction i with
  | zero =>
    intro _ _
    show 0 ≤ (0 : Int32).toInt ∧ (0 : Int32).toInt ≤ 999 * ((0 : Nat) : Int)
    decide
  | succ i ih =>
    intro hi hsl
    obtain ⟨a, b⟩ := ih (by omega) (fun j hj => hsl j (by omega))
    show 0 ≤ (sumI (fun i => fPr K d (sl i)) i + fPr K d (sl i)).toInt ∧ (sumI (fun i => fPr K d (sl i)) i + fPr K d (sl i)).toInt ≤ _
    obtain ⟨x, hx, hx2⟩ := h (sl i) (hsl i (by omega))
    have hf : ∃ y : Nat, y ≤ 999 ∧ (fPr K d (sl i)).toInt = (y : Int) := by
      unfold fPr
      by_cases q : K 5 5 (sl i) = nI d
      · rw [if_pos q]
        exact ⟨x, hx, by rw [hx2]; exact nI_toInt (by omega)⟩
      · rw [if_neg q]
        exact ⟨0, by omega, rfl⟩
    obtain ⟨y, hy, hy2⟩ := hf
    rw [add_small rfl hy2 (by omega) (by omega)]
    omega
def fI (N : KS) (d t j : Nat) (l3 : Int32) : Prop := (l3 = -1 ∧ ∀ k, k < j → ¬ (N 13 32 k = 98 ∧ N 16 35 k = nI d)) ∨ ∃ b, b < j ∧ l3 = nI b ∧ (N 13 32 b = 98 ∧ N 16 35 b = nI d) ∧ (t < j → b = t)
theorem mV_skip {M K : KS} {d j : Nat} {sl : Nat → Nat} (h : ¬ K 5 5 (sl j) = nI d) : mV M K d sl (j + 1) = mV M K d sl j := by
  have e2 : sE K d sl (M 13 32) (j + 1) = sE K d sl (M 13 32) j := by
    show (if K 5 5 (sl j) = nI d then va_up (sE K d sl (M 13 32) j) (sl j) 103 else sE K d sl (M 13 32) j) = _
    rw [if_neg h]
  have e4 : cR M K d sl (j + 1) = cR M K d sl j := by
    funext p
    show M 16 2 p + (sumI (fun i => fBu K d p (sl i)) j + fBu K d p (sl j)) = _
    rw [show fBu K d p (sl j) = 0 by unfold fBu; rw [if_neg (fun w => h w.1)], Int32.add_zero]
    rfl
  unfold mV
  rw [e2, e4]
theorem mV_step {M K : KS} {d q j : Nat} {sl : Nat → Nat} {x : LXp} (h : K 5 5 (sl j) = nI d) (hb : K 5 3 (sl j) = nI q) (hq : q < 6) : k3 (k3 (mH (mV M K d sl j) x) 13 32 (sl j) 103) 16 2 q (cR M K d sl j q + K 5 1 (sl j)) = mH (mV M K d sl (j + 1)) x := by
  show kr (kr (mH (mV M K d sl j) x) 13 32 (va_up (sE K d sl (M 13 32) j) (sl j) 103)) 16 2 (va_up (cR M K d sl j) q (cR M K d sl j q + K 5 1 (sl j))) = _
  rw [mH_sw _ (by omega) (by omega) (by omega), mH_sw _ (by omega) (by omega) (by omega)]
  congr 1
  have e2 : sE K d sl (M 13 32) (j + 1) = va_up (sE K d sl (M 13 32) j) (sl j) 103 := by
    show (if K 5 5 (sl j) = nI d then va_up (sE K d sl (M 13 32) j) (sl j) 103 else sE K d sl (M 13 32) j) = _
    rw [if_pos h]
  have e4 : cR M K d sl (j + 1) = va_up (cR M K d sl j) q (cR M K d sl j q + K 5 1 (sl j)) := by
    funext p
    show M 16 2 p + (sumI (fun i => fBu K d p (sl i)) j + fBu K d p (sl j)) = _
    rw [up_if]
    unfold fBu
    rw [hb, nI_clamp (by omega)]
    by_cases w : p = q
    · rw [if_pos w, if_pos ⟨h, w.symm⟩, ← Int32.add_assoc, w]
      rfl
    · rw [if_neg w, if_neg (fun v => w v.2.symm), Int32.add_zero]
      rfl
  unfold mV
  rw [e2, e4, kr_sw _ (cR M K d sl j) _ (by omega), kr_kr, kr_kr]
