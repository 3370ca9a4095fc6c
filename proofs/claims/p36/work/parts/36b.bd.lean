/-! Bounds of the coins and of the house. -/
def BD (np B : Nat) (K : KS) : Prop := (∀ p, p < np → 0 ≤ (K 10 0 p).toInt ∧ (K 10 0 p).toInt ≤ (B : Int)) ∧ 0 ≤ (K 0 3 0).toInt ∧ (K 0 3 0).toInt ≤ (B : Int)
theorem toInt_addS {a b : Int32} {x y : Int} (ha : a.toInt = x) (hb : b.toInt = y) (h1 : -(2 ^ 31) ≤ x + y) (h2 : x + y < 2 ^ 31) : (a + b).toInt = x + y := by
  rw [Int32.toInt_add, ha, hb]
  exact Int.bmod_eq_of_le (by omega) (by omega)
theorem toInt_subS {a b : Int32} {x y : Int} (ha : a.toInt = x) (hb : b.toInt = y) (h1 : -(2 ^ 31) ≤ x - y) (h2 : x - y < 2 ^ 31) : (a - b).toInt = x - y := by
  rw [Int32.toInt_sub, ha, hb]
  exact Int.bmod_eq_of_le (by omega) (by omega)
theorem sumI_bd {f : Nat → Int32} {c : Nat} : ∀ n : Nat, n ≤ 60 → c ≤ 2000000 → (∀ i, i < n → 0 ≤ (f i).toInt ∧ (f i).toInt ≤ (c : Int)) → 0 ≤ (sumI f n).toInt ∧ (sumI f n).toInt ≤ (c : Int) * (n : Int) := by
  intro n
  induction n with
  | zero =>
    intro _ _ _
    refine ⟨?_, ?_⟩
    · show (0 : Int) ≤ (0 : Int32).toInt
      decide
    · show (0 : Int32).toInt ≤ (c : Int) * ((0 : Nat) : Int)
      rw [show ((0 : Nat) : Int) = 0 from rfl, Int.mul_zero]
      decide
  | succ n ih =>
    intro hn hc h
    obtain ⟨a1, a2⟩ := ih (by omega) hc (fun i hi => h i (by omega))
    obtain ⟨b1, b2⟩ := h n (by omega)
    have e0 : (c : Int) * ((n + 1 : Nat) : Int) = (c : Int) * (n : Int) + c := by
      rw [Int.natCast_add, Int.mul_add]
      simp
    have e1 : (c : Int) * (n : Int) ≤ 2000000 * 60 := Int.mul_le_mul (by omega) (by omega) (by omega) (by omega)
    have e2 : (sumI f n + f n).toInt = (sumI f n).toInt + (f n).toInt := toInt_addS rfl rfl (by omega) (by omega)
    show 0 ≤ (sumI f n + f n).toInt ∧ (sumI f n + f n).toInt ≤ _
    rw [e2, e0]
    omega
theorem price_fee {x : Nat} (h2 : x ≤ 999) : (nI x + 9) / 10 = nI ((x + 9) / 10) := by
  have e : nI x + 9 = nI (x + 9) := nI_add x 9
  rw [e]
  exact pk_div (a := x + 9) (d := 10) (by omega) (by omega) (by omega)
theorem price_net {x : Nat} (h1 : 1 ≤ x) (h2 : x ≤ 999) : nI x - (nI x + 9) / 10 = nI (x - (x + 9) / 10) := by
  rw [price_fee h2, nI_sub (by omega)]
theorem bd_pay {K1 : KS} {np ns d : Nat} {sl : Nat → Nat} (hns : ns ≤ 60) (h : ∀ j, j < ns → ∃ x, 1 ≤ x ∧ x ≤ 999 ∧ K1 5 1 (sl j) = nI x) (B : Nat) (hB : B < 2 ^ 30) (hb : BD np B K1) : BD np (B + 60000) (kP K1 d sl ns) := by
  have hx : ∀ x : Nat, x ≤ 999 → (nI x).toInt = (x : Int) := fun x hx => nI_toInt (by omega)
  refine ⟨fun p hp => ?_, ?_⟩
  · have e1 : (kP K1 d sl ns) 10 0 p = K1 10 0 p + sumI (fun i => fCo K1 d p (sl i)) ns := rfl
    have hs := sumI_bd (f := fun i => fCo K1 d p (sl i)) (c := 999) ns hns (by omega) (fun i hi => by
      obtain ⟨x, x1, x2, x3⟩ := h i hi
      show 0 ≤ (fCo K1 d p (sl i)).toInt ∧ (fCo K1 d p (sl i)).toInt ≤ _
      unfold fCo
      split
      · rw [x3, price_net x1 x2, hx _ (by omega)]
        omega
      · exact ⟨by decide, by decide⟩)
    have hb1 := hb.1 p hp
    have e2 : (K1 10 0 p + sumI (fun i => fCo K1 d p (sl i)) ns).toInt = _ := toInt_addS rfl rfl (by omega) (by omega)
    rw [e1, e2]
    omega
  · have e1 : (kP K1 d sl ns) 0 3 0 = K1 0 3 0 + sumI (fun i => fFe K1 d (sl i)) ns := rfl
    have hs := sumI_bd (f := fun i => fFe K1 d (sl i)) (c := 999) ns hns (by omega) (fun i hi => by
      obtain ⟨x, x1, x2, x3⟩ := h i hi
      show 0 ≤ (fFe K1 d (sl i)).toInt ∧ (fFe K1 d (sl i)).toInt ≤ _
      unfold fFe
      split
      · rw [x3, price_fee x2, hx _ (by omega)]
        omega
      · exact ⟨by decide, by decide⟩)
    have hb1 := hb.2
    have e2 : (K1 0 3 0 + sumI (fun i => fFe K1 d (sl i)) ns).toInt = _ := toInt_addS rfl rfl (by omega) (by omega)
    rw [e1, e2]
    omega
theorem bd_buy {K K' : KS} {np p : Nat} {v : Int32} (hv : ∃ x, 1 ≤ x ∧ x ≤ 999 ∧ v = nI x) (hp : p < np) (hle : v ≤ K 10 0 p) (h : (K' 10 0 = va_up (K 10 0) p (K 10 0 p - v) ∧ K' 0 3 0 = K 0 3 0) ∨ ∃ q, q < np ∧ K' 10 0 = va_up (va_up (K 10 0) p (K 10 0 p - v)) q (va_up (K 10 0) p (K 10 0 p - v) q + (v - (v + 9) / 10)) ∧ K' 0 3 0 = K 0 3 0 + (v + 9) / 10) (B : Nat) (hB : B < 2 ^ 30) (hb : BD np B K) : BD np (B + 60000) K' := by
  obtain ⟨x, x1, x2, rfl⟩ := hv
  have hx : ∀ x : Nat, x ≤ 999 → (nI x).toInt = (x : Int) := fun x hx => nI_toInt (by omega)
  have l1 := Int32.le_iff_toInt_le.mp hle
  rw [hx x x2] at l1
  have hbp := hb.1 p hp
  have e1 : (K 10 0 p - nI x).toInt = (K 10 0 p).toInt - (x : Int) := toInt_subS rfl (hx x x2) (by omega) (by omega)
  have base : ∀ i, i < np → 0 ≤ (va_up (K 10 0) p (K 10 0 p - nI x) i).toInt ∧ (va_up (K 10 0) p (K 10 0 p - nI x) i).toInt ≤ (B : Int) := by
    intro i hi
    rw [up_if]
    by_cases z : i = p
    · rw [if_pos z, e1]
      omega
    · rw [if_neg z]
      exact hb.1 i hi
  rcases h with ⟨h1, h2⟩ | ⟨q, hq, h1, h2⟩
  · unfold BD
    rw [h1, h2]
    refine ⟨fun i hi => ?_, ?_⟩
    · have := base i hi
      omega
    · have := hb.2
      omega
  · rw [price_net x1 x2] at h1
    rw [price_fee x2] at h2
    unfold BD
    rw [h1, h2]
    refine ⟨fun i hi => ?_, ?_⟩
    · rw [up_if]
      by_cases z : i = q
      · rw [if_pos z]
        have hq2 := base q hq
        have e2 : (va_up (K 10 0) p (K 10 0 p - nI x) q + nI (x - (x + 9) / 10)).toInt = _ := toInt_addS rfl (hx _ (by omega)) (by omega) (by omega)
        rw [e2]
        omega
      · rw [if_neg z]
        have := base i hi
        omega
    · have h3 := hb.2
      have e2 : (K 0 3 0 + nI ((x + 9) / 10)).toInt = _ := toInt_addS rfl (hx _ (by omega)) (by omega) (by omega)
      rw [e2]
      omega
