/-! Blocks of snapshots: what is kept, by its uses. -/
def pU (p : Nat → Bool) (x : Nat) (v : Bool) : Nat → Bool := fun R => if R = x then v else p R
theorem pU_if (p : Nat → Bool) (x : Nat) (v : Bool) (R : Nat) : pU p x v R = if R = x then v else p R := rfl
theorem refB_cong {p p2 : Nat → Bool} {bl bl2 : Nat → Nat} {b n : Nat} (h : ∀ R, R < n → (p R = true ∧ bl R = b ↔ p2 R = true ∧ bl2 R = b)) : refB p bl b n = refB p2 bl2 b n := by
  induction n with
  | zero => rfl
  | succ n ih =>
    show refB p bl b n + (if p n = true ∧ bl n = b then 1 else 0) = refB p2 bl2 b n + (if p2 n = true ∧ bl2 n = b then 1 else 0)
    rw [ih (fun R hR => h R (by omega))]
    simp only [h n (by omega)]
theorem refB_add {p : Nat → Bool} {bl : Nat → Nat} {x b0 b n : Nat} (hx : x < n) (hp : p x = false) : refB (pU p x true) (va_up bl x b0) b n = refB p bl b n + if b0 = b then 1 else 0 := by
  induction n with
  | zero => omega
  | succ n ih =>
    show refB (pU p x true) (va_up bl x b0) b n + (if pU p x true n = true ∧ va_up bl x b0 n = b then 1 else 0) = refB p bl b n + (if p n = true ∧ bl n = b then 1 else 0) + (if b0 = b then 1 else 0)
    rw [pU_if, up_if]
    rcases Nat.lt_or_ge x n with q | q
    · have e : ¬ n = x := by omega
      rw [ih q]
      simp only [e, if_false]
      omega
    · have e : n = x := by omega
      have hc : refB (pU p x true) (va_up bl x b0) b n = refB p bl b n := refB_cong (fun R hR => by
        rw [pU_if, up_if, if_neg (by omega), if_neg (by omega)])
      rw [hc]
      simp only [e, if_true, hp]
      simp
theorem refB_sub {p : Nat → Bool} {bl : Nat → Nat} {x b n : Nat} (hx : x < n) (hp : p x = true) : refB p bl b n = refB (pU p x false) bl b n + if bl x = b then 1 else 0 := by
  have h := refB_add (p := pU p x false) (bl := bl) (x := x) (b0 := bl x) (b := b) (n := n) hx (by rw [pU_if, if_pos rfl])
  rw [← h]
  refine refB_cong (fun R _ => ?_)
  rw [pU_if, pU_if, up_if]
  by_cases q : R = x
  · rw [if_pos q, if_pos q, q, hp]
  · rw [if_neg q, if_neg q, if_neg q]
theorem refB_zero {p : Nat → Bool} {bl : Nat → Nat} {b n : Nat} (h : refB p bl b n = 0) : ∀ R, R < n → p R = true → bl R ≠ b := by
  induction n with
  | zero => intro R hR; omega
  | succ n ih =>
    intro R hR hp hb
    have h2 : refB p bl b n + (if p n = true ∧ bl n = b then 1 else 0) = 0 := h
    rcases (by omega : R < n ∨ R = n) with q | q
    · exact ih (by omega) R q hp hb
    · rw [if_pos (by rw [← q]; exact ⟨hp, hb⟩)] at h2
      omega
theorem refB_le (p : Nat → Bool) (bl : Nat → Nat) (b n : Nat) : refB p bl b n ≤ n := by
  induction n with
  | zero => exact Nat.le_refl 0
  | succ n ih =>
    show refB p bl b n + (if p n = true ∧ bl n = b then 1 else 0) ≤ n + 1
    split <;> omega
theorem sumN_zero : ∀ n, sumN (fun _ => 0) n = 0 := by
  intro n
  induction n with
  | zero => rfl
  | succ n ih =>
    show sumN (fun _ => 0) n + 0 = 0
    rw [ih]
theorem sumN_one {m c : Nat} (q : Bool) : sumN (fun b => if q = true ∧ c = b then 1 else 0) m ≤ if q = true then 1 else 0 := by
  induction m with
  | zero => exact Nat.zero_le _
  | succ m ih =>
    show sumN (fun b => if q = true ∧ c = b then 1 else 0) m + (if q = true ∧ c = m then 1 else 0) ≤ _
    by_cases z : q = true ∧ c = m
    · have e : sumN (fun b => if q = true ∧ c = b then 1 else 0) m = 0 := by
        rw [sumN_cong (g := fun _ => 0) (fun i hi => by
          show (if q = true ∧ c = i then 1 else 0) = 0
          rw [if_neg (fun w => by omega)]), sumN_zero]
      rw [e, if_pos z, if_pos z.1]
      exact Nat.le_refl _
    · rw [if_neg z]
      exact ih
theorem sumN_add (f g : Nat → Nat) (m : Nat) : sumN (fun b => f b + g b) m = sumN f m + sumN g m := by
  induction m with
  | zero => rfl
  | succ m ih =>
    show sumN (fun b => f b + g b) m + (f m + g m) = sumN f m + f m + (sumN g m + g m)
    rw [ih]
    omega
theorem ref_sum {p : Nat → Bool} {bl : Nat → Nat} {m : Nat} : ∀ n, sumN (fun b => refB p bl b n) m ≤ n ∧ ((∃ x, x < n ∧ p x = false) → sumN (fun b => refB p bl b n) m < n) := by
  intro n
  induction n with
  | zero =>
    refine ⟨?_, fun h => by obtain ⟨x, hx, _⟩ := h; omega⟩
    show sumN (fun _ => 0) m ≤ 0
    rw [sumN_zero]
    exact Nat.le_refl 0
  | succ n ih =>
    have e : sumN (fun b => refB p bl b (n + 1)) m = sumN (fun b => refB p bl b n) m + sumN (fun b => if p n = true ∧ bl n = b then 1 else 0) m := sumN_add _ _ m
    have h1 := sumN_one (m := m) (c := bl n) (p n)
    rw [e]
    refine ⟨by
      have : (if p n = true then 1 else 0) ≤ 1 := by split <;> omega
      omega, fun h => ?_⟩
    obtain ⟨x, hx, hp⟩ := h
    rcases (by omega : x < n ∨ x = n) with q | q
    · have := ih.2 ⟨x, q, hp⟩
      have : (if p n = true then 1 else 0) ≤ 1 := by split <;> omega
      omega
    · rw [← q, hp] at h1
      have h2 : sumN (fun b => if p n = true ∧ bl n = b then 1 else 0) m ≤ 0 := by
        rw [← q, hp]
        exact h1
      omega
theorem ref_free {p : Nat → Bool} {bl : Nat → Nat} (h : ∃ x, x < 288 ∧ p x = false) : ∃ b, b < 288 ∧ refB p bl b 288 = 0 := by
  have h1 := (ref_sum (p := p) (bl := bl) (m := 288) 288).2 h
  refine Classical.byContradiction fun hn => ?_
  have h2 : ∀ m, m ≤ 288 → m ≤ sumN (fun b => refB p bl b 288) m := by
    intro m
    induction m with
    | zero => intro _; exact Nat.zero_le _
    | succ m ih =>
      intro hm
      show m + 1 ≤ sumN (fun b => refB p bl b 288) m + refB p bl m 288
      have : refB p bl m 288 ≠ 0 := fun z => hn ⟨m, by omega, z⟩
      have := ih (by omega)
      omega
  have := h2 288 (Nat.le_refl _)
  omega
theorem BS_cong {p p2 : Nat → Bool} {bl : Nat → Nat} {k2 ks : Nat → Int32} {k19 : Nat → Nat → Int32} {m : Nat → Int32} (hp : ∀ R, R < 288 → p R = p2 R) (h : BS p bl k2 ks k19 m) : BS p2 bl k2 ks k19 m := by
  obtain ⟨h1, h2, h3⟩ := h
  have e : ∀ b, refB p2 bl b 288 = refB p bl b 288 := fun b => refB_cong (fun R hR => by rw [hp R hR])
  refine ⟨fun R hR q => h1 R hR (by rw [hp R hR]; exact q), fun b hb => by rw [e]; exact h2 b hb, fun b b2 hb hb2 r1 r2 => ?_⟩
  rw [e] at r1 r2
  exact h3 b b2 hb hb2 r1 r2
/-- a block that is kept already gets one use more -/
theorem BS_hit {p : Nat → Bool} {bl : Nat → Nat} {k2 ks : Nat → Int32} {k19 G : Nat → Nat → Int32} {m : Nat → Int32} {x b : Nat} (h : BS p bl k2 ks k19 m) (hx : x < 288) (hp : p x = false) (hb : b < 288) (hu : 0 < refB p bl b 288) (hc : ∀ j, j < 4 → k2 (4 * b + j) = m (4 * x + j)) (hG : G (x / 6) (x % 6) = nI b) (hG2 : ∀ R, R < 288 → R ≠ x → G (R / 6) (R % 6) = k19 (R / 6) (R % 6)) : BS (pU p x true) (va_up bl x b) k2 (va_up ks b (ks b + 1)) G m := by
  obtain ⟨h1, h2, h3⟩ := h
  refine ⟨fun R hR q => ?_, fun c hc2 => ?_, fun c c2 hc1 hc2 r1 r2 => ?_⟩
  · rw [pU_if] at q
    rw [up_if]
    by_cases z : R = x
    · rw [if_pos z, z]
      exact ⟨hG, hb, hc⟩
    · rw [if_neg z] at q
      rw [if_neg z, hG2 R hR z]
      exact h1 R hR q
  · rw [refB_add hx hp, up_if]
    by_cases z : c = b
    · rw [if_pos z, if_pos z.symm, z, h2 b hb, nI_1]
    · rw [if_neg z, if_neg (fun w => z w.symm), Nat.add_zero]
      exact h2 c hc2
  · rw [refB_add hx hp] at r1 r2
    refine h3 c c2 hc1 hc2 ?_ ?_
    · by_cases z : b = c
      · rw [← z]
        exact hu
      · rw [if_neg z, Nat.add_zero] at r1
        exact r1
    · by_cases z : b = c2
      · rw [← z]
        exact hu
      · rw [if_neg z, Nat.add_zero] at r2
        exact r2
/-- a new block goes where none is used -/
theorem BS_new {p : Nat → Bool} {bl : Nat → Nat} {k2 ks f : Nat → Int32} {k19 G : Nat → Nat → Int32} {m : Nat → Int32} {x b i : Nat} (h : BS p bl k2 ks k19 m) (hx : x < 288) (hp : p x = false) (hb : b < 288) (hu : refB p bl b 288 = 0) (hf : ∀ j, j < 4 → f (4 * i + j) = m (4 * x + j)) (hd : ∀ c, c < 288 → 0 < refB p bl c 288 → ¬ ∀ j, j < 4 → k2 (4 * c + j) = f (4 * i + j)) (hG : G (x / 6) (x % 6) = nI b) (hG2 : ∀ R, R < 288 → R ≠ x → G (R / 6) (R % 6) = k19 (R / 6) (R % 6)) : BS (pU p x true) (va_up bl x b) (va_cpy f k2 (4 * i) (4 * b) 4) (va_up ks b 1) G m := by
  obtain ⟨h1, h2, h3⟩ := h
  have hz := refB_zero hu
  have cin : ∀ j, j < 4 → va_cpy f k2 (4 * i) (4 * b) 4 (4 * b + j) = f (4 * i + j) := fun j hj => by
    unfold va_cpy
    rw [if_pos ⟨by omega, by omega⟩, show 4 * b + j - 4 * b = j by omega]
  have cout : ∀ c j, c ≠ b → j < 4 → va_cpy f k2 (4 * i) (4 * b) 4 (4 * c + j) = k2 (4 * c + j) := fun c j hc hj => by
    unfold va_cpy
    rw [if_neg (by omega)]
  refine ⟨fun R hR q => ?_, fun c hc2 => ?_, fun c c2 hc1 hc2 r1 r2 heq => ?_⟩
  · rw [pU_if] at q
    rw [up_if]
    by_cases z : R = x
    · rw [if_pos z, z]
      exact ⟨hG, hb, fun j hj => by rw [cin j hj, hf j hj]⟩
    · rw [if_neg z] at q
      rw [if_neg z, hG2 R hR z]
      obtain ⟨v1, v2, v3⟩ := h1 R hR q
      exact ⟨v1, v2, fun j hj => by rw [cout _ j (hz R hR q) hj]; exact v3 j hj⟩
  · rw [refB_add hx hp, up_if]
    by_cases z : c = b
    · rw [if_pos z, if_pos z.symm, z, hu]
      rfl
    · rw [if_neg z, if_neg (fun w => z w.symm), Nat.add_zero]
      exact h2 c hc2
  · rw [refB_add hx hp] at r1 r2
    by_cases z : c = b
    · by_cases z2 : c2 = b
      · rw [z, z2]
      · rw [if_neg (fun w => z2 w.symm), Nat.add_zero] at r2
        exact absurd (fun j hj => by
          have := heq j hj
          rw [z, cin j hj, cout c2 j z2 hj] at this
          exact this.symm) (hd c2 hc2 r2)
    · by_cases z2 : c2 = b
      · rw [if_neg (fun w => z w.symm), Nat.add_zero] at r1
        exact absurd (fun j hj => by
          have := heq j hj
          rw [z2, cin j hj, cout c j z hj] at this
          exact this) (hd c hc1 r1)
      · rw [if_neg (fun w => z w.symm), Nat.add_zero] at r1
        rw [if_neg (fun w => z2 w.symm), Nat.add_zero] at r2
        exact h3 c c2 hc1 hc2 r1 r2 (fun j hj => by
          have := heq j hj
          rw [cout c j z hj, cout c2 j z2 hj] at this
          exact this)
/-- a use is dropped -/
theorem BS_drop {p : Nat → Bool} {bl : Nat → Nat} {k2 ks : Nat → Int32} {k19 : Nat → Nat → Int32} {m : Nat → Int32} {x : Nat} (h : BS p bl k2 ks k19 m) (hx : x < 288) (hp : p x = true) : (∃ u, u < 288 ∧ ks (bl x) = nI (u + 1)) ∧ BS (pU p x false) bl k2 (va_up ks (bl x) (ks (bl x) - 1)) k19 m := by
  obtain ⟨h1, h2, h3⟩ := h
  have hb := (h1 x hx hp).2.1
  have e := refB_sub (bl := bl) (b := bl x) hx hp
  rw [if_pos rfl] at e
  have hle := refB_le p bl (bl x) 288
  refine ⟨⟨refB (pU p x false) bl (bl x) 288, by omega, by rw [h2 _ hb, e]⟩, fun R hR q => ?_, fun c hc2 => ?_, fun c c2 hc1 hc2 r1 r2 => ?_⟩
  · refine h1 R hR ?_
    rw [pU_if] at q
    by_cases z : R = x
    · rw [z]
      exact hp
    · rw [if_neg z] at q
      exact q
  · rw [up_if]
    by_cases z : c = bl x
    · rw [if_pos z, h2 _ hb, e, z, nI_pred]
    · rw [if_neg z, h2 c hc2, refB_sub (bl := bl) (b := c) hx hp, if_neg (fun w => z w.symm), Nat.add_zero]
  · have e1 := refB_sub (bl := bl) (b := c) hx hp
    have e2 := refB_sub (bl := bl) (b := c2) hx hp
    exact h3 c c2 hc1 hc2 (by omega) (by omega)
theorem cl_isAs {post : Int32 → Prop} {K : KS} {b i : Nat} (hb : b < 288) (hi : i < 6) (hy : (∀ j, j < 4 → K 10 2 (4 * b + j) = K 10 1 (4 * i + j)) → post 1) (hn : (¬ ∀ j, j < 4 → K 10 2 (4 * b + j) = K 10 1 (4 * i + j)) → post 0) : ∀ r j, j + r = 4 → (∀ j2, j2 < j → K 10 2 (4 * b + j2) = K 10 1 (4 * i + j2)) → wX0_isAs_3 post (r + 1) (nI b) (nI (4 * i)) (nI j) K := by
  intro r
  induction r with
  | zero =>
    intro j hj hq
    have : j = 4 := by omega
    subst this
    unfold wX0_isAs_3
    exact ⟨fun _ => hy hq, fun z => absurd (nI_le (a := 4) (b := 4) (by omega) (by omega)) z⟩
  | succ r ih =>
    intro j hj hq
    have e1 : nI b * 4 + nI j = nI (4 * b + j) := by rw [← nI_add, ← nI_mul, Int32.mul_comm]; rfl
    have e2 : nI (4 * i) + nI j = nI (4 * i + j) := nI_add _ _
    unfold wX0_isAs_3
    rw [e1, e2, nI_clamp (n := 4 * b + j) (by omega), nI_clamp (n := 4 * i + j) (by omega), nI_1]
    refine ⟨fun z => absurd z (nI_ge (a := j) (b := 4) (by omega) (by omega)), fun _ => ⟨vp_in_nI (by omega) (by omega), vp_in_nI (by omega) (by omega), fun z => ih (j + 1) (by omega) (fun j2 hj2 => ?_), fun z => hn (fun w => z (w j (by omega)))⟩⟩
    rcases (by omega : j2 < j ∨ j2 = j) with y | y
    · exact hq j2 y
    · rw [y]
      exact z
theorem cl_keep1 {post : Int32 → KS → Prop} {K : KS} {i : Nat} (hi : i < 6) (hks : ∀ b, b < 288 → ∃ u, u < 1000 ∧ K 10 3 b = nI u) (hfree : ∃ b, b < 288 ∧ K 10 3 b = 0) (hit : ∀ b, b < 288 → ¬ K 10 3 b = 0 → (∀ j, j < 4 → K 10 2 (4 * b + j) = K 10 1 (4 * i + j)) → post (nI b) (k3 K 10 3 b (K 10 3 b + 1))) (new : ∀ b, b < 288 → K 10 3 b = 0 → (∀ c, c < 288 → ¬ K 10 3 c = 0 → ¬ ∀ j, j < 4 → K 10 2 (4 * c + j) = K 10 1 (4 * i + j)) → post (nI b) (k3 (kr K 10 2 (va_cpy (K 10 1) (K 10 2) (4 * i) (4 * b) 4)) 10 3 b 1)) : ∀ r l fr, l + r = 288 → (∀ c, c < l → ¬ K 10 3 c = 0 → ¬ ∀ j, j < 4 → K 10 2 (4 * c + j) = K 10 1 (4 * i + j)) → fr < 288 → ((∃ b, b < l ∧ K 10 3 b = 0) → K 10 3 fr = 0) → wX0_keepBlock_19 post (r + 1) (nI (4 * i)) (nI fr) (nI l) K := by
  intro r
  induction r with
  | zero =>
    intro l fr hl hq hfr hfr2
    have : l = 288 := by omega
    subst this
    have e1 : nI fr * 4 = nI (4 * fr) := by rw [← nI_mul, Int32.mul_comm]; rfl
    unfold wX0_keepBlock_19
    rw [e1, nI_clamp (n := 4 * i) (by omega), nI_clamp (n := 4 * fr) (by omega), nI_clamp (n := fr) (by omega)]
    refine ⟨fun _ => ⟨⟨nI_pos (by omega), nI_pos (by omega), by decide, ?_, ?_⟩, vp_in_nI (by omega) (by omega), new fr hfr (hfr2 hfree) hq⟩, fun z => absurd (nI_le (a := 288) (b := 288) (by omega) (by omega)) z⟩
    · rw [nI_clamp (by omega)]
      show 4 * i + 4 ≤ 24
      omega
    · rw [nI_clamp (by omega)]
      show 4 * fr + 4 ≤ 1152
      omega
  | succ r ih =>
    intro l fr hl hq hfr hfr2
    unfold wX0_keepBlock_19 wX0_keepBlock_68
    rw [nI_clamp (n := l) (by omega), nI_1]
    refine ⟨fun z => absurd z (nI_ge (a := l) (b := 288) (by omega) (by omega)), fun _ => ⟨vp_in_nI (by omega) (by omega), fun z => ?_, fun z => ?_⟩⟩
    · unfold wpX0_isAs
      refine ⟨5, cl_isAs (b := l) (by omega) hi (fun y => ⟨fun w => absurd w (by decide), fun _ => hit l (by omega) z y⟩) (fun y => ⟨fun _ => ih (l + 1) fr (by omega) (fun c hc hc2 => ?_) hfr (fun w => hfr2 ?_), fun w => absurd rfl w⟩) 4 0 (by omega) (fun j hj => absurd hj (Nat.not_lt_zero j))⟩
      · rcases (by omega : c < l ∨ c = l) with v | v
        · exact hq c v hc2
        · rw [v]
          exact y
      · obtain ⟨b, hb, hb2⟩ := w
        rcases (by omega : b < l ∨ b = l) with v | v
        · exact ⟨b, v, hb2⟩
        · rw [v] at hb2
          exact absurd hb2 z
    · refine ih (l + 1) l (by omega) (fun c hc hc2 => ?_) (by omega) (fun _ => z)
      rcases (by omega : c < l ∨ c = l) with v | v
      · exact hq c v hc2
      · rw [v] at hc2
        exact absurd z hc2

