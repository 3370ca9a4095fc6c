/-! A snapshot is written and kept. -/
def nmS (K : KS) (d n : Nat) : Nat → Int32 := fun i => if i = 0 then K 7 1 (2 * d) else if i = 1 then K 7 1 (2 * d + 1) else if i = 2 then K 6 4 d else if i = 3 then K 6 5 d else if i < 12 then K 18 (2 * d) (i - 4) else if i < 20 then K 18 (2 * d + 1) (i - 12) else if i = 20 then nI n else if i - 20 ≤ n then K 17 d (n - (i - 20)) else -1
theorem cl_w83 {post : Unit → KS → Prop} {K : KS} {d n nd : Nat} (hD : nD K = nd) (hd : d < nd) (h7 : K 6 7 d = nI n) (hn : n ≤ 8) (hp : ∀ f, (∀ i, i < 24 → f i = nmS K d n i) → post () (kr K 10 1 f)) : ∀ r k f, k + r = 3 → (∀ i, i < 21 + k → f i = nmS K d n i) → wX2_writeState_83 post (r + 1) d (nI k) (kr K 10 1 f) := by
  intro r
  induction r with
  | zero =>
    intro k f hk hf
    have : k = 3 := by omega
    subst this
    unfold wX2_writeState_83
    exact ⟨fun _ => hp f hf, fun z => absurd (nI_le (a := 3) (b := 3) (by omega) (by omega)) z⟩
  | succ r ih =>
    intro k f hk hf
    have e21 : (21 : Int32) + nI k = nI (21 + k) := nI_add 21 k
    have step : ∀ v, v = nmS K d n (21 + k) → wX2_writeState_125 post (wX2_writeState_83 post (r + 1)) d (nI k) v (nI (21 + k)) (kr K 10 1 f) := by
      intro v hv
      unfold wX2_writeState_125
      rw [nI_clamp (n := 21 + k) (by omega), nI_1]
      refine ⟨vp_in_nI (by omega) (by omega), ?_⟩
      show wX2_writeState_83 post (r + 1) d (nI (k + 1)) (kr (kr K 10 1 f) 10 1 (va_up f (21 + k) v))
      rw [kr_kr]
      refine ih (k + 1) _ (by omega) (fun i hi => ?_)
      rw [up_if]
      by_cases z : i = 21 + k
      · rw [if_pos z, z, hv]
      · rw [if_neg z]
        exact hf i (by omega)
    have h7b : (kr K 10 1 f) 6 7 d = nI n := h7
    have nm : nmS K d n (21 + k) = if k + 1 ≤ n then K 17 d (n - (k + 1)) else -1 := by
      unfold nmS
      rw [if_neg (by omega), if_neg (by omega), if_neg (by omega), if_neg (by omega), if_neg (by omega), if_neg (by omega), if_neg (by omega), show 21 + k - 20 = k + 1 by omega]
    unfold wX2_writeState_83 wX2_writeState_124
    rw [h7b, e21]
    refine ⟨fun z => absurd z (nI_ge (a := k) (b := 3) (by omega) (by omega)), fun _ => ⟨by show d < nD K; omega, ?_⟩⟩
    by_cases q : k + 1 ≤ n
    · have e1 : nI n - 1 - nI k = nI (n - (k + 1)) := by
        rw [show nI n - 1 = nI (n - 1) from nI_sub (a := n) (b := 1) (by omega), nI_sub (by omega)]
        congr 1
        omega
      rw [e1, nI_clamp (by omega)]
      refine ⟨fun z => absurd z (nI_pos (by omega)), fun _ => ⟨fun z => absurd z (nI_ge (a := n - (k + 1)) (b := 8) (by omega) (by omega)), fun _ => ⟨vp_in_nI (by omega) (by omega), step _ ?_⟩⟩⟩
      rw [nm, if_pos q]
      rfl
    · have e1 : nI n - 1 - nI k < 0 := by
        have t1 : (nI n - 1).toInt = (n : Int) - 1 := sub_small (nI_toInt (n := n) (by omega)) (by decide : (1 : Int32).toInt = 1) (by omega) (by omega)
        have t2 := sub_small t1 (nI_toInt (n := k) (by omega)) (by omega) (by omega)
        rw [Int32.lt_iff_toInt_lt, t2]
        show (n : Int) - 1 - (k : Int) < 0
        omega
      exact ⟨fun _ => step _ (by rw [nm, if_neg q]), fun z => absurd e1 z⟩
theorem cl_write {post : Unit → KS → Prop} {K : KS} {d n nd : Nat} (hD : nD K = nd) (hd : d < nd) (h7 : K 6 7 d = nI n) (hn : n ≤ 8) (hp : ∀ f, (∀ i, i < 24 → f i = nmS K d n i) → post () (kr K 10 1 f)) : wpX2_writeState post K d := by
  have c0 : (0 : Int32).toNatClampNeg = 0 := by decide
  have c1 : (1 : Int32).toNatClampNeg = 1 := by decide
  have c2 : (2 : Int32).toNatClampNeg = 2 := by decide
  have c3 : (3 : Int32).toNatClampNeg = 3 := by decide
  have c4 : (4 : Int32).toNatClampNeg = 4 := by decide
  have c8 : (8 : Int32).toNatClampNeg = 8 := by decide
  have c12 : (12 : Int32).toNatClampNeg = 12 := by decide
  have c20 : (20 : Int32).toNatClampNeg = 20 := by decide
  unfold wpX2_writeState
  refine ⟨fun _ => ⟨by omega, vp_in_nI (n := 0) (by omega) (by omega), vp_in_nI (n := 1) (by omega) (by omega), vp_in_nI (n := 2) (by omega) (by omega), vp_in_nI (n := 3) (by omega) (by omega), by show 2 * d < 2 * nD K; omega, by unfold okCpy; decide, by show 2 * d + 1 < 2 * nD K; omega, by unfold okCpy; decide, vp_in_nI (n := 20) (by omega) (by omega), 4, ?_⟩, fun z => absurd (nI_le (a := 24) (b := 24) (by omega) (by omega)) z⟩
  rw [c0, c1, c2, c3, c4, c8, c12, c20]
  show wX2_writeState_83 post 4 d 0 (kr (kr (kr (kr (kr (kr (kr K 10 1 (va_up (K 10 1) 0 (K 7 1 (2 * d)))) 10 1 (va_up (va_up (K 10 1) 0 (K 7 1 (2 * d))) 1 (K 7 1 (2 * d + 1)))) 10 1 (va_up (va_up (va_up (K 10 1) 0 (K 7 1 (2 * d))) 1 (K 7 1 (2 * d + 1))) 2 (K 6 4 d))) 10 1 (va_up (va_up (va_up (va_up (K 10 1) 0 (K 7 1 (2 * d))) 1 (K 7 1 (2 * d + 1))) 2 (K 6 4 d)) 3 (K 6 5 d))) 10 1 (va_cpy (K 18 (2 * d)) (va_up (va_up (va_up (va_up (K 10 1) 0 (K 7 1 (2 * d))) 1 (K 7 1 (2 * d + 1))) 2 (K 6 4 d)) 3 (K 6 5 d)) 0 4 8)) 10 1 (va_cpy (K 18 (2 * d + 1)) (va_cpy (K 18 (2 * d)) (va_up (va_up (va_up (va_up (K 10 1) 0 (K 7 1 (2 * d))) 1 (K 7 1 (2 * d + 1))) 2 (K 6 4 d)) 3 (K 6 5 d)) 0 4 8) 0 12 8)) 10 1 (va_up (va_cpy (K 18 (2 * d + 1)) (va_cpy (K 18 (2 * d)) (va_up (va_up (va_up (va_up (K 10 1) 0 (K 7 1 (2 * d))) 1 (K 7 1 (2 * d + 1))) 2 (K 6 4 d)) 3 (K 6 5 d)) 0 4 8) 0 12 8) 20 (K 6 7 d)))
  rw [kr_kr, kr_kr, kr_kr, kr_kr, kr_kr, kr_kr]
  refine cl_w83 hD hd h7 hn hp 3 0 _ (by omega) (fun i hi => ?_)
  rw [h7]
  simp only [nmS, va_cpy, va_up]
  rcases (by omega : i = 0 ∨ i = 1 ∨ i = 2 ∨ i = 3 ∨ (4 ≤ i ∧ i < 12) ∨ (12 ≤ i ∧ i < 20) ∨ i = 20) with z | z | z | z | z | z | z
  · subst z; rfl
  · subst z; rfl
  · subst z; rfl
  · subst z; rfl
  · rw [if_neg (by omega), if_neg (by omega), if_pos (by omega), if_neg (by omega), if_neg (by omega), if_neg (by omega), if_neg (by omega), if_pos (by omega), Nat.zero_add]
  · rw [if_neg (by omega), if_pos (by omega), if_neg (by omega), if_neg (by omega), if_neg (by omega), if_neg (by omega), if_neg (by omega), if_pos (by omega), Nat.zero_add]
  · subst z; rfl
def pI (sn : Nat → Nat) (lo i : Nat) : Nat → Bool := fun R => kpB sn R || decide (lo ≤ R ∧ R < lo + i)
def kB (K : KS) (q : Nat) (k2 ks g : Nat → Int32) : KS := kr (kr (kr K 10 2 k2) 10 3 ks) 19 q g
theorem kB_hit (K : KS) (q : Nat) (k2 ks g : Nat → Int32) (b i : Nat) (v w : Int32) : k3 (k3 (kB K q k2 ks g) 10 3 b v) 19 q i w = kB K q k2 (va_up ks b v) (va_up g i w) := by
  funext x y z
  unfold kB k3 kr va_up
  grind
theorem kB_new (K : KS) (q : Nat) (k2 k22 ks g : Nat → Int32) (b i : Nat) (v w : Int32) : k3 (k3 (kr (kB K q k2 ks g) 10 2 k22) 10 3 b v) 19 q i w = kB K q k22 (va_up ks b v) (va_up g i w) := by
  funext x y z
  unfold kB k3 kr va_up
  grind
theorem kB_19 (K : KS) (q : Nat) (k2 ks g : Nat → Int32) (a b : Nat) : (kB K q k2 ks g) 19 a b = if a = q then g b else K 19 a b := by
  unfold kB kr va_up
  by_cases h : a = q
  · simp [h]
  · simp [h]
theorem pI_step (sn : Nat → Nat) (lo i : Nat) : ∀ R, R < 288 → pU (pI sn lo i) (lo + i) true R = pI sn lo (i + 1) R := by
  intro R _
  rw [pU_if]
  unfold pI
  by_cases z : R = lo + i
  · rw [if_pos z, decide_eq_true (p := lo ≤ R ∧ R < lo + (i + 1)) (by omega), Bool.or_true]
  · rw [if_neg z]
    congr 1
    exact decide_eq_decide.mpr ⟨fun w => by omega, fun w => by omega⟩
theorem cl_keep {post : Unit → KS → Prop} {K : KS} {d s nd : Nat} {sn : Nat → Nat} {m : Nat → Int32} (hD : nD K = nd) (hd : d < nd) (hnd : nd ≤ 8) (h8 : K 6 8 d = nI s) (hs : s < 6) (hsn : sn d = s) (hm : ∀ i, i < 24 → m (24 * (6 * d + s) + i) = K 10 1 i) (hp : ∀ bl k2 ks g, BS (pI sn (36 * d + 6 * s) 6) bl k2 ks ((kB K (6 * d + s) k2 ks g) 19) m → post () (k3 (kr (kB K (6 * d + s) k2 ks g) 20 (6 * d + s) (va_cpy (K 17 d) (K 20 (6 * d + s)) 0 0 8)) 6 8 d (nI (s + 1)))) : ∀ r i bl k2 ks g, i + r = 6 → BS (pI sn (36 * d + 6 * s) i) bl k2 ks ((kB K (6 * d + s) k2 ks g) 19) m → wX2_keep_19 post (r + 1) d (nI i) (kB K (6 * d + s) k2 ks g) := by
  intro r
  induction r with
  | zero =>
    intro i bl k2 ks g hi hB
    have : i = 6 := by omega
    subst this
    have h8b : (kB K (6 * d + s) k2 ks g) 6 8 d = nI s := h8
    unfold wX2_keep_19
    rw [h8b, nI_clamp (n := s) (by omega)]
    refine ⟨fun _ => ⟨by show d < nD K; omega, vp_in_nI hs (by omega), by unfold okCpy; decide, ?_⟩, fun z => absurd (nI_le (a := 6) (b := 6) (by omega) (by omega)) z⟩
    show post () (k3 (kr (kB K (6 * d + s) k2 ks g) 20 (6 * d + s) (va_cpy (K 17 d) (K 20 (6 * d + s)) 0 0 8)) 6 8 d ((kB K (6 * d + s) k2 ks g) 6 8 d + 1))
    rw [h8b, nI_1]
    exact hp bl k2 ks g hB
  | succ r ih =>
    intro i bl k2 ks g hi hB
    have h8b : (kB K (6 * d + s) k2 ks g) 6 8 d = nI s := h8
    have e4 : nI i * 4 = nI (4 * i) := by rw [← nI_mul, Int32.mul_comm]; rfl
    obtain ⟨B1, B2, B3⟩ := hB
    have hx : 36 * d + 6 * s + i < 288 := by omega
    have hpx : pI sn (36 * d + 6 * s) i (36 * d + 6 * s + i) = false := by
      unfold pI kpB
      rw [show (36 * d + 6 * s + i) / 6 % 6 = s by omega, show (36 * d + 6 * s + i) / 36 = d by omega, hsn, decide_eq_false (by omega), decide_eq_false (by omega)]
      rfl
    have hmx : ∀ j, j < 4 → K 10 1 (4 * i + j) = m (4 * (36 * d + 6 * s + i) + j) := fun j hj => by
      rw [show 4 * (36 * d + 6 * s + i) + j = 24 * (6 * d + s) + (4 * i + j) by omega]
      exact (hm (4 * i + j) (by omega)).symm
    have hrb : ∀ b, refB (pI sn (36 * d + 6 * s) i) bl b 288 ≤ 288 := fun b => refB_le _ _ _ _
    have hks : ∀ b, b < 288 → ks b = nI (refB (pI sn (36 * d + 6 * s) i) bl b 288) := B2
    have hG2 : ∀ (b : Nat) (k22 ks2 : Nat → Int32) R, R < 288 → R ≠ 36 * d + 6 * s + i → (kB K (6 * d + s) k22 ks2 (va_up g i (nI b))) 19 (R / 6) (R % 6) = (kB K (6 * d + s) k2 ks g) 19 (R / 6) (R % 6) := fun b k22 ks2 R hR hne => by
      rw [kB_19, kB_19]
      by_cases z : R / 6 = 6 * d + s
      · rw [if_pos z, if_pos z, up_if, if_neg (by omega)]
      · rw [if_neg z, if_neg z]
    have hG1 : ∀ (b : Nat) (k22 ks2 : Nat → Int32), (kB K (6 * d + s) k22 ks2 (va_up g i (nI b))) 19 ((36 * d + 6 * s + i) / 6) ((36 * d + 6 * s + i) % 6) = nI b := fun b k22 ks2 => by
      rw [kB_19, if_pos (by omega), up_if, if_pos (by omega)]
    unfold wX2_keep_19
    rw [h8b, nI_clamp (n := s) (by omega), nI_clamp (n := i) (by omega), nI_1, e4]
    refine ⟨fun z => absurd z (nI_ge (a := i) (b := 6) (by omega) (by omega)), fun _ => ⟨by show d < nD K; omega, vp_in_nI hs (by omega), ?_⟩⟩
    have h24 : nI (4 * i) + 4 ≤ nI 24 := by
      show nI (4 * i) + nI 4 ≤ nI 24
      rw [nI_add]
      exact nI_le (by omega) (by omega)
    unfold wpX0_keepBlock
    refine ⟨fun z => absurd z (nI_pos (by omega)), fun _ => ⟨fun _ => ⟨289, cl_keep1 (K := kB K (6 * d + s) k2 ks g) (i := i) (by omega) (fun b hb => ⟨_, by have := hrb b; omega, hks b hb⟩) ?_ (fun b hb hne hc => ⟨by show 6 * d + s < 6 * nD K; omega, vp_in_nI (by omega) (by omega), ?_⟩) (fun b hb h0 hc => ⟨by show 6 * d + s < 6 * nD K; omega, vp_in_nI (by omega) (by omega), ?_⟩) 288 0 0 (by omega) (fun c hc => absurd hc (Nat.not_lt_zero c)) (by omega) (fun w => by obtain ⟨b, hb, _⟩ := w; omega)⟩, fun z => absurd h24 z⟩⟩
    · obtain ⟨b, hb, hb2⟩ := ref_free (bl := bl) ⟨36 * d + 6 * s + i, hx, hpx⟩
      refine ⟨b, hb, ?_⟩
      show ks b = 0
      rw [hks b hb, hb2]
      rfl
    · rw [kB_hit]
      have hne2 : ¬ ks b = 0 := hne
      have hu : 0 < refB (pI sn (36 * d + 6 * s) i) bl b 288 := by
        rcases Nat.eq_zero_or_pos (refB (pI sn (36 * d + 6 * s) i) bl b 288) with w | w
        · rw [hks b hb, w] at hne2
          exact absurd rfl hne2
        · exact w
      have hc2 : ∀ j, j < 4 → k2 (4 * b + j) = m (4 * (36 * d + 6 * s + i) + j) := fun j hj => (hc j hj).trans (hmx j hj)
      exact ih (i + 1) _ _ _ _ (by omega) (BS_cong (pI_step sn (36 * d + 6 * s) i) (BS_hit ⟨B1, B2, B3⟩ hx hpx hb hu hc2 (hG1 b _ _) (hG2 b _ _)))
    · rw [kB_new]
      have h02 : ks b = 0 := h0
      have hu : refB (pI sn (36 * d + 6 * s) i) bl b 288 = 0 := by
        have := hrb b
        rw [hks b hb] at h02
        exact (nI_eq (b := 0) (by omega) (by omega)).mp h02
      exact ih (i + 1) _ _ _ _ (by omega) (BS_cong (pI_step sn (36 * d + 6 * s) i) (BS_new (i := i) (f := K 10 1) ⟨B1, B2, B3⟩ hx hpx hb hu hmx (fun c hcl hcr => hc c hcl (fun w => by
        have w2 : ks c = 0 := w
        have := hrb c
        rw [hks c hcl] at w2
        have := (nI_eq (b := 0) (by omega) (by omega)).mp w2
        omega)) (hG1 b _ _) (hG2 b _ _)))

