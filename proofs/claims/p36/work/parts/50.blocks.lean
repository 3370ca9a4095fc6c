/-! The number of blocks. -/
def nzc (f : Nat → Nat) : Nat → Nat
  | 0 => 0
  | n + 1 => nzc f n + if f n = 0 then 0 else 1
def fB (p : Nat → Bool) (bl : Nat → Nat) : Nat → Nat
  | 0 => 0
  | R + 1 => fB p bl R + if p R = true ∧ refB p bl (bl R) R = 0 then 1 else 0
theorem nzc_cong {f g : Nat → Nat} {n : Nat} (h : ∀ i, i < n → f i = g i) : nzc f n = nzc g n := by
  induction n with
  | zero => rfl
  | succ n ih =>
    show nzc f n + (if f n = 0 then 0 else 1) = nzc g n + (if g n = 0 then 0 else 1)
    rw [ih (fun i hi => h i (by omega)), h n (by omega)]
theorem nzc_zero {f : Nat → Nat} {n : Nat} (h : ∀ i, i < n → f i = 0) : nzc f n = 0 := by
  induction n with
  | zero => rfl
  | succ n ih =>
    show nzc f n + (if f n = 0 then 0 else 1) = 0
    rw [ih (fun i hi => h i (by omega)), if_pos (h n (by omega))]
theorem nzc_up {f g : Nat → Nat} {b0 n : Nat} (hb : b0 < n) (hg : g b0 ≠ 0) (h : ∀ i, i ≠ b0 → g i = f i) : nzc g n = nzc f n + if f b0 = 0 then 1 else 0 := by
  induction n with
  | zero => omega
  | succ n ih =>
    show nzc g n + (if g n = 0 then 0 else 1) = nzc f n + (if f n = 0 then 0 else 1) + if f b0 = 0 then 1 else 0
    by_cases q : b0 = n
    · subst q
      rw [nzc_cong (f := g) (g := f) (fun i hi => h i (by omega)), if_neg hg]
      by_cases z : f b0 = 0
      · rw [if_pos z, if_pos z]
      · rw [if_neg z, if_neg z]
    · rw [ih (by omega), h n (fun e => q e.symm)]
      omega
theorem nzc_fB {p : Nat → Bool} {bl : Nat → Nat} {m : Nat} (hb : ∀ R, R < m → p R = true → bl R < m) : ∀ N, N ≤ m → nzc (fun b => refB p bl b N) m = fB p bl N := by
  intro N
  induction N with
  | zero =>
    intro _
    exact nzc_zero (fun i _ => rfl)
  | succ N ih =>
    intro hN
    have e := ih (by omega)
    show _ = fB p bl N + if p N = true ∧ refB p bl (bl N) N = 0 then 1 else 0
    by_cases q : p N = true
    · rw [nzc_up (f := fun b => refB p bl b N) (g := fun b => refB p bl b (N + 1)) (b0 := bl N) (n := m) (hb N (by omega) q), e]
      · by_cases z : refB p bl (bl N) N = 0
        · rw [if_pos z, if_pos ⟨q, z⟩]
        · rw [if_neg z, if_neg (fun y => z y.2)]
      · show refB p bl (bl N) N + (if p N = true ∧ bl N = bl N then 1 else 0) ≠ 0
        rw [if_pos ⟨q, rfl⟩]
        omega
      · intro i hi
        show refB p bl i N + (if p N = true ∧ bl N = i then 1 else 0) = refB p bl i N
        rw [if_neg (fun y => hi y.2.symm), Nat.add_zero]
    · rw [if_neg (fun y => q y.1), Nat.add_zero, ← e]
      refine nzc_cong (f := fun b => refB p bl b (N + 1)) (g := fun b => refB p bl b N) (fun i _ => ?_)
      show refB p bl i N + (if p N = true ∧ bl N = i then 1 else 0) = refB p bl i N
      rw [if_neg (fun y => q y.1), Nat.add_zero]
theorem fB_le (p : Nat → Bool) (bl : Nat → Nat) (N : Nat) : fB p bl N ≤ N := by
  induction N with
  | zero => exact Nat.le_refl 0
  | succ N ih =>
    show fB p bl N + (if p N = true ∧ refB p bl (bl N) N = 0 then 1 else 0) ≤ N + 1
    by_cases q : p N = true ∧ refB p bl (bl N) N = 0
    · rw [if_pos q]
      omega
    · rw [if_neg q]
      omega
theorem nzc_le (f : Nat → Nat) (n : Nat) : nzc f n ≤ n := by
  induction n with
  | zero => exact Nat.le_refl 0
  | succ n ih =>
    show nzc f n + (if f n = 0 then 0 else 1) ≤ n + 1
    by_cases q : f n = 0
    · rw [if_pos q]
      omega
    · rw [if_neg q]
      omega
theorem cl_kept {post : Int32 → Prop} {K : KS} {f : Nat → Nat} (hk : ∀ b, b < 288 → K 10 3 b = nI (f b) ∧ f b ≤ 288) (hp : post (nI (nzc f 288))) : ∀ m i, i + m = 288 → wX0_countKept_4 post (m + 1) (nI (nzc f i)) (nI i) K := by
  intro m
  induction m with
  | zero =>
    intro i hi
    have hi2 : i = 288 := by omega
    subst hi2
    unfold wX0_countKept_4
    exact ⟨fun _ => hp, fun z => absurd (nI_le (a := 288) (b := 288) (by omega) (by omega)) z⟩
  | succ m ih =>
    intro i hi
    have a := ih (i + 1) (by omega)
    have b := hk i (by omega)
    unfold wX0_countKept_4
    rw [nI_clamp (n := i) (by omega), b.1]
    refine ⟨fun z => absurd z (nI_ge (a := i) (b := 288) (by omega) (by omega)), fun _ => ⟨vp_in_nI (by omega) (by omega), fun z => ?_, fun z => ?_⟩⟩
    · unfold wX0_countKept_23
      have e : f i = 0 := by
        have := (nI_leI (a := f i) (b := 0) (by omega) (by omega)).mp z
        omega
      have e2 : nzc f (i + 1) = nzc f i := by
        show nzc f i + (if f i = 0 then 0 else 1) = _
        rw [if_pos e, Nat.add_zero]
      rw [e2, ← nI_1 (a := i)] at a
      exact a
    · unfold wX0_countKept_23
      have e : ¬ f i = 0 := fun w => z (by rw [w]; exact Int32.le_refl 0)
      have e2 : nI (nzc f (i + 1)) = nI (nzc f i) + 1 := by
        rw [nI_1]
        show nI (nzc f i + (if f i = 0 then 0 else 1)) = _
        rw [if_neg e]
      rw [e2, ← nI_1 (a := i)] at a
      exact a
theorem div36 {x : Nat} (h : x < 600) : nI x / 36 = nI (x / 36) := pk_div (a := x) (d := 36) (by omega) (by omega) (by omega)
theorem div6 {x : Nat} (h : x < 600) : nI x / 6 = nI (x / 6) := pk_div (a := x) (d := 6) (by omega) (by omega) (by omega)
theorem rem6 {x : Nat} (h : x < 600) : nI x - nI x / 6 * 6 = nI (x % 6) := pk_rem (a := x) (d := 6) (by omega) (by omega) (by omega)
