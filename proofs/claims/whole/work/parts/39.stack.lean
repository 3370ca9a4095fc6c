/-! The stack is done: both sides by one picture. -/
def stk (en : Nat → Nat) : Nat → Nat → Nat → Nat → Nat → Nat × Int32 × Int32
  | 0, _, _, x, y => (0, nI x, nI y)
  | n + 1, fl, ad, x, y =>
    if fl = 1 then stk en n 0 0 x y
    else if en n / 10 % 10 = 0 then
      (if en n / 100 = 0 then (if en n % 10 + ad < y then stk en n 0 0 x (y - (en n % 10 + ad)) else (1, nI x, nI y - nI (en n % 10 + ad)))
       else (if en n % 10 + ad < x then stk en n 0 0 (x - (en n % 10 + ad)) y else (2, nI x - nI (en n % 10 + ad), nI y)))
    else if en n / 10 % 10 = 1 then
      (if en n / 100 = 0 then stk en n 0 0 (if x + (en n % 10 + ad) < 20 then x + (en n % 10 + ad) else 20) y
       else stk en n 0 0 x (if y + (en n % 10 + ad) < 20 then y + (en n % 10 + ad) else 20))
    else if en n / 10 % 10 = 2 then stk en n 1 0 x y
    else stk en n 0 (en n % 10 + ad) x y
def kSt (K : KS) (d : Nat) (a x y : Int32) : KS := k3 (k3 (k3 K 6 7 d a) 7 1 (2 * d) x) 7 1 (2 * d + 1) y
def mSt (M : KS) (d : Nat) (a x y : Int32) : KS := k3 (k3 (k3 M 16 24 d a) 16 18 (2 * d) x) 16 18 (2 * d + 1) y
theorem st_67 (K : KS) (d : Nat) (a x y b : Int32) : k3 (kSt K d a x y) 6 7 d b = kSt K d b x y := by
  funext i j k
  unfold kSt
  simp only [k3_if]
  grind
theorem st_71 (K : KS) (d : Nat) (a x y b : Int32) : k3 (kSt K d a x y) 7 1 (2 * d) b = kSt K d a b y := by
  funext i j k
  unfold kSt
  simp only [k3_if]
  grind
theorem st_72 (K : KS) (d : Nat) (a x y b : Int32) : k3 (kSt K d a x y) 7 1 (2 * d + 1) b = kSt K d a x b := by
  funext i j k
  unfold kSt
  simp only [k3_if]
  grind
theorem rd_67 (K : KS) (d : Nat) (a x y : Int32) : kSt K d a x y 6 7 d = a := by
  unfold kSt
  rw [k3_if, if_neg (by omega), k3_if, if_neg (by omega), k3_if, if_pos ⟨rfl, rfl, rfl⟩]
theorem rd_71 (K : KS) (d : Nat) (a x y : Int32) : kSt K d a x y 7 1 (2 * d) = x := by
  unfold kSt
  rw [k3_if, if_neg (by omega), k3_if, if_pos ⟨rfl, rfl, rfl⟩]
theorem rd_72 (K : KS) (d : Nat) (a x y : Int32) : kSt K d a x y 7 1 (2 * d + 1) = y := by
  unfold kSt
  rw [k3_if, if_pos ⟨rfl, rfl, rfl⟩]
theorem mt_24 (M : KS) (d : Nat) (a x y b : Int32) : k3 (mSt M d a x y) 16 24 d b = mSt M d b x y := by
  funext i j k
  unfold mSt
  simp only [k3_if]
  grind
theorem mt_71 (M : KS) (d : Nat) (a x y b : Int32) : k3 (mSt M d a x y) 16 18 (2 * d) b = mSt M d a b y := by
  funext i j k
  unfold mSt
  simp only [k3_if]
  grind
theorem mt_72 (M : KS) (d : Nat) (a x y b : Int32) : k3 (mSt M d a x y) 16 18 (2 * d + 1) b = mSt M d a x b := by
  funext i j k
  unfold mSt
  simp only [k3_if]
  grind
theorem md_24 (M : KS) (d : Nat) (a x y : Int32) : mSt M d a x y 16 24 d = a := by
  unfold mSt
  rw [k3_if, if_neg (by omega), k3_if, if_neg (by omega), k3_if, if_pos ⟨rfl, rfl, rfl⟩]
theorem md_71 (M : KS) (d : Nat) (a x y : Int32) : mSt M d a x y 16 18 (2 * d) = x := by
  unfold mSt
  rw [k3_if, if_neg (by omega), k3_if, if_pos ⟨rfl, rfl, rfl⟩]
theorem md_72 (M : KS) (d : Nat) (a x y : Int32) : mSt M d a x y 16 18 (2 * d + 1) = y := by
  unfold mSt
  rw [k3_if, if_pos ⟨rfl, rfl, rfl⟩]
theorem sub_le0 {y p : Nat} (h : y ≤ p) (hp : p < 1000) : nI y - nI p ≤ 0 := by
  rw [Int32.le_iff_toInt_le, sub_small (nI_toInt (n := y) (by omega)) (nI_toInt (n := p) (by omega)) (by omega) (by omega)]
  show (y : Int) - (p : Int) ≤ 0
  omega
theorem nI_0lt {n : Nat} (h : 0 < n) (h2 : n < 2 ^ 31) : 0 < nI n := nI_lt (a := 0) h h2
theorem cap20 {n : Nat} (h : n < 1000) : (if nI n < (20 : Int32) then nI n else 20) = nI (if n < 20 then n else 20) := by
  by_cases z : n < 20
  · rw [if_pos z, if_pos (show nI n < (20 : Int32) from nI_lt (b := 20) z (by omega))]
  · rw [if_neg z, if_neg (show ¬ nI n < (20 : Int32) from nI_nlt (b := 20) (a := n) (by omega) (by omega))]
    rfl
def enOK (v : Nat) : Prop := ∃ a b c, a ≤ 1 ∧ b ≤ 3 ∧ 1 ≤ c ∧ c ≤ 4 ∧ v = 100 * a + 10 * b + c
theorem dig (v : Nat) (h : enOK v) : nI v / 100 = nI (v / 100) ∧ nI v / 10 - nI v / 10 / 10 * 10 = nI (v / 10 % 10) ∧ nI v - nI v / 10 * 10 = nI (v % 10) := by
  obtain ⟨a, b, c, ha, hb, hc, hc2, rfl⟩ := h
  refine ⟨pk_div (d := 100) (by omega) (by omega) (by omega), ?_, pk_rem (d := 10) (by omega) (by omega) (by omega)⟩
  rw [show nI (100 * a + 10 * b + c) / 10 = nI ((100 * a + 10 * b + c) / 10) from pk_div (d := 10) (by omega) (by omega) (by omega)]
  exact pk_rem (d := 10) (by omega) (by omega) (by omega)
/-- what is owed at the end of the stack, on the side that is held -/
def stH (post : Unit → KS → Prop) (K : KS) (d : Nat) (R : Nat × Int32 × Int32) : Prop := (R.1 = 0 → post () (kSt K d 0 R.2.1 R.2.2)) ∧ (R.1 = 1 → post () (k3 (k3 (kSt K d 0 R.2.1 R.2.2) 6 2 d 101) 6 3 d (K 7 0 (2 * d)))) ∧ (R.1 = 2 → post () (k3 (k3 (kSt K d 0 R.2.1 R.2.2) 6 2 d 101) 6 3 d (K 7 0 (2 * d + 1))))
theorem cl_stack {post : Unit → KS → Prop} {K : KS} {d nd n0 : Nat} {en : Nat → Nat} (hD : nD K = nd) (hd : d < nd) (hn0 : n0 ≤ 8) (hen : ∀ i, i < n0 → K 17 d i = nI (en i)) : ∀ N n, n ≤ N → n ≤ n0 → (∀ i, i < n → enOK (en i)) → ∀ f ad x y, n < f → ad + 4 * n ≤ 32 → 1 ≤ x → x ≤ 20 → 1 ≤ y → y ≤ 20 → stH post K d (stk en n 0 ad x y) → wX2_doStack_2 post f d (nI ad) (kSt K d (nI n) (nI x) (nI y)) := by
  have base : ∀ f ad K2, K2 6 7 d = 0 → 0 < f → nD K2 = nd → post () K2 → wX2_doStack_2 post f d ad K2 := by
    intro f ad K2 h0 hf hD2 hp
    obtain ⟨f2, rfl⟩ : ∃ f2, f = f2 + 1 := ⟨f - 1, by omega⟩
    unfold wX2_doStack_2
    rw [h0]
    exact ⟨by omega, fun _ => hp, fun q => absurd (Int32.le_refl 0) q⟩
  intro N
  induction N with
  | zero =>
    intro n hn _ _ f ad x y hf _ _ _ _ _ hH
    have : n = 0 := by omega
    subst this
    exact base f _ _ (rd_67 _ _ _ _ _) hf hD (hH.1 rfl)
  | succ N ih =>
    intro n hn hn8 hok f ad x y hf had hx1 hx2 hy1 hy2 hH
    rcases (by omega : n = 0 ∨ 1 ≤ n) with rfl | h1
    · exact base f _ _ (rd_67 _ _ _ _ _) hf hD (hH.1 rfl)
    · obtain ⟨m, rfl⟩ : ∃ m, n = m + 1 := ⟨n - 1, by omega⟩
      obtain ⟨f2, rfl⟩ : ∃ f2, f = f2 + 1 := ⟨f - 1, by omega⟩
      have hv := hok m (by omega)
      obtain ⟨g1, g2, g3⟩ := dig (en m) hv
      obtain ⟨a, b, c, ha, hb, hc, hc2, hv2⟩ := hv
      have r1 : en m / 100 = a := by omega
      have r2 : en m / 10 % 10 = b := by omega
      have r3 : en m % 10 = c := by omega
      rw [r1] at g1
      rw [r2] at g2
      rw [r3] at g3
      have e17 : (kSt K d (nI m) (nI x) (nI y)) 17 d m = nI (en m) := hen m (by omega)
      have hok2 : ∀ i, i < m → enOK (en i) := fun i hi => hok i (by omega)
      have hst : stk en (m + 1) 0 ad x y = if b = 0 then (if a = 0 then (if c + ad < y then stk en m 0 0 x (y - (c + ad)) else (1, nI x, nI y - nI (c + ad))) else (if c + ad < x then stk en m 0 0 (x - (c + ad)) y else (2, nI x - nI (c + ad), nI y))) else if b = 1 then (if a = 0 then stk en m 0 0 (if x + (c + ad) < 20 then x + (c + ad) else 20) y else stk en m 0 0 x (if y + (c + ad) < 20 then y + (c + ad) else 20)) else if b = 2 then stk en m 1 0 x y else stk en m 0 (c + ad) x y := by
        show (if (0 : Nat) = 1 then _ else _) = _
        rw [if_neg (by omega), r1, r2, r3]
      rw [hst] at hH
      unfold wX2_doStack_2
      rw [rd_67, st_67, rd_67, show nI (m + 1) - 1 = nI m from nI_pred m, nI_clamp (n := m) (by omega), e17, g1, g2, g3, nI_add]
      refine ⟨by show d < nD K; omega, fun q => absurd q (nI_nle (by omega) (by omega)), fun _ => ⟨fun q => absurd q (nI_nlt (b := m + 1) (a := 8) (by omega) (by omega)), fun _ => ⟨vp_in_nI (by omega) (by omega), ?_⟩⟩⟩
      intro x5 h5 x6 h6 x7 h7
      subst h5
      subst h6
      subst h7
      unfold wX2_doStack_132
      have hb1 : (nI b = 0 ↔ b = 0) := nI_eq (a := b) (b := 0) (by omega) (by omega)
      have hb2 : (nI b = 1 ↔ b = 1) := nI_eq (a := b) (b := 1) (by omega) (by omega)
      have hb3 : (nI b = 2 ↔ b = 2) := nI_eq (a := b) (b := 2) (by omega) (by omega)
      have ha0 : (nI a = 0 ↔ a = 0) := nI_eq (a := a) (b := 0) (by omega) (by omega)
      rw [hb1, hb2, hb3]
      have hDs : ∀ u v w : Int32, nD (kSt K d u v w) = nd := fun _ _ _ => hD
      have over : ∀ (u v w : Int32), post () (k3 (k3 (kSt K d 0 u v) 6 2 d 101) 6 3 d w) → wX2_doStack_2 post f2 d 0 (k3 (k3 (kSt K d 0 u v) 6 2 d 101) 6 3 d w) := by
        intro u v w hp
        refine base f2 _ _ ?_ (by omega) hD hp
        show kSt K d 0 u v 6 7 d = 0
        exact rd_67 _ _ _ _ _
      refine ⟨fun q0 => ⟨fun q1 => ⟨fun q2 => ?_, fun q2 => ?_⟩, fun q1 => ?_⟩, fun q0 => ?_⟩
      · rw [if_neg q0, if_neg q1, if_neg q2] at hH
        exact ih m (by omega) (by omega) hok2 f2 (c + ad) x y (by omega) (by omega) hx1 hx2 hy1 hy2 hH
      · rw [if_neg q0, if_neg q1, if_pos q2] at hH
        rw [st_67]
        rcases (by omega : m = 0 ∨ 1 ≤ m) with hm | hm
        · subst hm
          rw [if_neg (by decide)]
          exact base f2 _ _ (rd_67 _ _ _ _ _) (by omega) hD (hH.1 rfl)
        · obtain ⟨m2, rfl⟩ : ∃ m2, m = m2 + 1 := ⟨m - 1, by omega⟩
          have e2 : (if 0 < nI (m2 + 1) - 1 then nI (m2 + 1) - 1 else 0) = nI m2 := by
            rw [nI_pred]
            rcases (by omega : m2 = 0 ∨ 0 < m2) with z | z
            · subst z
              rfl
            · rw [if_pos (nI_0lt z (by omega))]
          rw [e2]
          have hH2 : stH post K d (stk en m2 0 0 x y) := hH
          exact ih m2 (by omega) (by omega) (fun i hi => hok i (by omega)) f2 0 x y (by omega) (by omega) hx1 hx2 hy1 hy2 hH2
      · rw [if_neg q0, if_pos q1] at hH
        unfold wpX2_healOwn wX2_healOwn_15
        refine ⟨fun w => ⟨by rw [hDs]; omega, by rw [hDs]; omega, ?_⟩, fun w => ⟨by rw [hDs]; omega, by rw [hDs]; omega, ?_⟩⟩
        · rw [if_neg (fun z => w (ha0.mpr z))] at hH
          rw [rd_72, st_72, nI_add]
          have e2 := cap20 (n := y + (c + ad)) (by omega)
          rw [e2]
          refine ih m (by omega) (by omega) hok2 f2 0 x _ (by omega) (by omega) hx1 hx2 ?_ ?_ hH
          · split <;> omega
          · split <;> omega
        · rw [if_pos (ha0.mp w)] at hH
          rw [rd_71, st_71, nI_add]
          have e2 := cap20 (n := x + (c + ad)) (by omega)
          rw [e2]
          refine ih m (by omega) (by omega) hok2 f2 0 _ y (by omega) (by omega) ?_ ?_ hy1 hy2 hH
          · split <;> omega
          · split <;> omega
      · rw [if_pos q0] at hH
        unfold wpX2_hurtOtherOf wX2_hurtOtherOf_15 wX2_hurtOtherOf_31 wpX2_end
        refine ⟨fun w => ⟨by rw [hDs]; omega, fun _ => ⟨by rw [hDs]; omega, by rw [hDs]; omega, ?_⟩, fun w2 => absurd w2 w⟩, fun w => ⟨by rw [hDs]; omega, fun w2 => absurd w w2, fun _ => ⟨by rw [hDs]; omega, by rw [hDs]; omega, ?_⟩⟩⟩
        · rw [if_neg (fun z => w (ha0.mpr z))] at hH
          rw [rd_71, st_71, rd_71, st_67]
          by_cases z : c + ad < x
          · rw [if_pos z] at hH
            rw [nI_sub (by omega)]
            refine ⟨fun _ => ih m (by omega) (by omega) hok2 f2 0 (x - (c + ad)) y (by omega) (by omega) (by omega) (by omega) hy1 hy2 hH, fun z2 => absurd (nI_0lt (by omega) (by omega)) z2⟩
          · rw [if_neg z] at hH
            have hle := sub_le0 (y := x) (p := c + ad) (by omega) (by omega)
            exact ⟨fun z2 => absurd z2 (Int32.not_lt.mpr hle), fun _ => ⟨by rw [hDs]; omega, by rw [hDs]; omega, by rw [hDs]; omega, over _ _ _ (hH.2.2 rfl)⟩⟩
        · rw [if_pos (ha0.mp w)] at hH
          rw [rd_72, st_72, rd_72, st_67]
          by_cases z : c + ad < y
          · rw [if_pos z] at hH
            rw [nI_sub (by omega)]
            refine ⟨fun _ => ih m (by omega) (by omega) hok2 f2 0 x (y - (c + ad)) (by omega) (by omega) hx1 hx2 (by omega) (by omega) hH, fun z2 => absurd (nI_0lt (by omega) (by omega)) z2⟩
          · rw [if_neg z] at hH
            have hle := sub_le0 (y := y) (p := c + ad) (by omega) (by omega)
            exact ⟨fun z2 => absurd z2 (Int32.not_lt.mpr hle), fun _ => ⟨by rw [hDs]; omega, by rw [hDs]; omega, by rw [hDs]; omega, over _ _ _ (hH.2.1 rfl)⟩⟩
/-- the reference's loop over the same stack -/
theorem ml_stack {post : Int32 → KS → Int64 → Prop} {M : KS} {ap : Int64} {d n0 : Nat} {en : Nat → Nat} (hd : d < 8) (hn0 : n0 ≤ 8) (hen : ∀ i, i < n0 → M 16 25 (16 * d + i) = nI (en i)) : ∀ N n, n ≤ N → n ≤ n0 → (∀ i, i < n → enOK (en i)) → ∀ f ad x y, n < f → ad + 4 * n ≤ 32 → 1 ≤ x → x ≤ 20 → 1 ≤ y → y ≤ 20 → (((stk en n 0 ad x y).1 = 0 → post 0 (mSt M d 0 (stk en n 0 ad x y).2.1 (stk en n 0 ad x y).2.2) ap) ∧ (¬ (stk en n 0 ad x y).1 = 0 → post 1 (mSt M d 0 (stk en n 0 ad x y).2.1 (stk en n 0 ad x y).2.2) ap)) → wX7_resolves_2 post f (nI d) (nI ad) (mSt M d (nI n) (nI x) (nI y)) ap := by
  have base : ∀ f ad x y, 0 < f → post 0 (mSt M d 0 x y) ap → wX7_resolves_2 post f (nI d) ad (mSt M d 0 x y) ap := by
    intro f ad x y hf hp
    obtain ⟨f2, rfl⟩ : ∃ f2, f = f2 + 1 := ⟨f - 1, by omega⟩
    unfold wX7_resolves_2
    rw [nI_clamp (n := d) (by omega), md_24]
    exact ⟨vp_in_nI hd (by omega), fun _ => hp, fun q => absurd (Int32.le_refl 0) q⟩
  intro N
  induction N with
  | zero =>
    intro n hn _ _ f ad x y hf _ _ _ _ _ hH
    have : n = 0 := by omega
    subst this
    exact base f _ _ _ hf (hH.1 rfl)
  | succ N ih =>
    intro n hn hn8 hok f ad x y hf had hx1 hx2 hy1 hy2 hH
    rcases (by omega : n = 0 ∨ 1 ≤ n) with rfl | h1
    · exact base f _ _ _ hf (hH.1 rfl)
    · obtain ⟨m, rfl⟩ : ∃ m, n = m + 1 := ⟨n - 1, by omega⟩
      obtain ⟨f2, rfl⟩ : ∃ f2, f = f2 + 1 := ⟨f - 1, by omega⟩
      have hv := hok m (by omega)
      obtain ⟨g1, g2, g3⟩ := dig (en m) hv
      obtain ⟨a, b, c, ha, hb, hc, hc2, hv2⟩ := hv
      have r1 : en m / 100 = a := by omega
      have r2 : en m / 10 % 10 = b := by omega
      have r3 : en m % 10 = c := by omega
      rw [r1] at g1
      rw [r2] at g2
      rw [r3] at g3
      have hok2 : ∀ i, i < m → enOK (en i) := fun i hi => hok i (by omega)
      have hst : stk en (m + 1) 0 ad x y = if b = 0 then (if a = 0 then (if c + ad < y then stk en m 0 0 x (y - (c + ad)) else (1, nI x, nI y - nI (c + ad))) else (if c + ad < x then stk en m 0 0 (x - (c + ad)) y else (2, nI x - nI (c + ad), nI y))) else if b = 1 then (if a = 0 then stk en m 0 0 (if x + (c + ad) < 20 then x + (c + ad) else 20) y else stk en m 0 0 x (if y + (c + ad) < 20 then y + (c + ad) else 20)) else if b = 2 then stk en m 1 0 x y else stk en m 0 (c + ad) x y := by
        show (if (0 : Nat) = 1 then _ else _) = _
        rw [if_neg (by omega), r1, r2, r3]
      rw [hst] at hH
      have hb1 : (nI b = 0 ↔ b = 0) := nI_eq (a := b) (b := 0) (by omega) (by omega)
      have hb2 : (nI b = 1 ↔ b = 1) := nI_eq (a := b) (b := 1) (by omega) (by omega)
      have hb3 : (nI b = 2 ↔ b = 2) := nI_eq (a := b) (b := 2) (by omega) (by omega)
      have hb4 : (nI b = 3 ↔ b = 3) := nI_eq (a := b) (b := 3) (by omega) (by omega)
      have i0 : (2 : Int32) * nI d = nI (2 * d) := nI_mul 2 d
      have i1 := ix2 d 1
      have i2 := ix2 d a
      have i16 := ix16 d m
      -- behind an effect: both lives are looked at
      have after : ∀ k ad2 x2 y2, 1 ≤ x2 → 1 ≤ y2 → x2 ≤ 20 → y2 ≤ 20 → wX7_resolves_2 post f2 (nI d) ad2 (mSt M d k (nI x2) (nI y2)) ap → wX7_resolves_175 post (wX7_resolves_2 post f2) (nI d) ad2 (mSt M d k (nI x2) (nI y2)) ap := by
        intro k ad2 x2 y2 v1 v2 v3 v4 hp
        unfold wX7_resolves_175
        rw [show (2 : Int32) * nI d + 1 = nI (2 * d + 1) from i1, i0, nI_clamp (n := 2 * d) (by omega), nI_clamp (n := 2 * d + 1) (by omega), md_71, md_72]
        exact ⟨vp_in_nI (by omega) (by omega), fun z => absurd z (nI_nle (by omega) (by omega)), fun _ => ⟨vp_in_nI (by omega) (by omega), fun _ => hp, fun z => absurd (nI_0lt (by omega) (by omega)) z⟩⟩
      have over : ∀ k ad2 u v, (u ≤ 0 ∨ (0 < u ∧ v ≤ 0)) → post 1 (mSt M d 0 u v) ap → wX7_resolves_175 post (wX7_resolves_2 post f2) (nI d) ad2 (mSt M d k u v) ap := by
        intro k ad2 u v hq hp
        unfold wX7_resolves_175
        rw [show (2 : Int32) * nI d + 1 = nI (2 * d + 1) from i1, i0, nI_clamp (n := 2 * d) (by omega), nI_clamp (n := 2 * d + 1) (by omega), nI_clamp (n := d) (by omega), md_71, md_72, mt_24]
        refine ⟨vp_in_nI (by omega) (by omega), fun z => ⟨vp_in_nI (by omega) (by omega), hp⟩, fun z => ⟨vp_in_nI (by omega) (by omega), fun z2 => ?_, fun _ => ⟨vp_in_nI (by omega) (by omega), hp⟩⟩⟩
        rcases hq with w | w
        · exact absurd w z
        · exact absurd z2 (Int32.not_lt.mpr w.2)
      have h73 : ∀ (t0 : Int32), (b = 3 → t0 = nI (c + ad)) → (b ≠ 3 → t0 = 0) → wX7_resolves_73 post (wX7_resolves_2 post f2) (nI d) (nI a) (nI (c + ad)) (nI b) t0 (mSt M d (nI m) (nI x) (nI y)) ap := by
        intro t0 ht3 ht0
        unfold wX7_resolves_73
        rw [hb1, hb2, hb3, nI_clamp (n := d) (by omega), md_24, mt_24, i2, nI_clamp (n := 2 * d + a) (by omega)]
        refine ⟨fun q0 => ⟨fun q1 => ⟨fun q2 => ?_, fun q2 => ⟨vp_in_nI (by omega) (by omega), fun z => ?_, fun z => ?_⟩⟩, fun q1 => ⟨vp_in_nI (by omega) (by omega), ?_⟩⟩, fun q0 => ?_⟩
        · rw [if_neg q0, if_neg q1, if_neg q2] at hH
          rw [ht3 (by omega)]
          exact after _ _ _ _ hx1 hy1 hx2 hy2 (ih m (by omega) (by omega) hok2 f2 (c + ad) x y (by omega) (by omega) hx1 hx2 hy1 hy2 hH)
        · have hm : m = 0 := by
            rcases (by omega : m = 0 ∨ 1 ≤ m) with w | w
            · exact w
            · exact absurd z (nI_nle (by omega) (by omega))
          rw [if_neg q0, if_neg q1, if_pos q2] at hH
          rw [ht0 (by omega)]
          subst hm
          exact after _ _ _ _ hx1 hy1 hx2 hy2 (base f2 _ _ _ (by omega) (hH.1 rfl))
        · have hm : 1 ≤ m := by
            rcases (by omega : m = 0 ∨ 1 ≤ m) with w | w
            · rw [w] at z
              exact absurd (Int32.le_refl 0) z
            · exact w
          rw [if_neg q0, if_neg q1, if_pos q2] at hH
          rw [ht0 (by omega)]
          obtain ⟨m2, rfl⟩ : ∃ m2, m = m2 + 1 := ⟨m - 1, by omega⟩
          rw [show nI (m2 + 1) - 1 = nI m2 from nI_pred m2]
          exact after _ _ _ _ hx1 hy1 hx2 hy2 (ih m2 (by omega) (by omega) (fun i hi => hok i (by omega)) f2 0 x y (by omega) (by omega) hx1 hx2 hy1 hy2 hH)
        · rw [if_neg q0, if_pos q1] at hH
          rw [ht0 (by omega)]
          intro x19 hx19
          subst hx19
          unfold wX7_resolves_146
          rw [nI_clamp (n := 2 * d + a) (by omega)]
          rcases (by omega : a = 0 ∨ a = 1) with w | w
          · subst w
            rw [if_pos rfl] at hH
            rw [show 2 * d + 0 = 2 * d from rfl, md_71, nI_add, mt_71]
            refine ⟨fun z => ⟨vp_in_nI (by omega) (by omega), ?_⟩, fun z => ⟨vp_in_nI (by omega) (by omega), ?_⟩⟩
            · have z2 : x + (c + ad) ≤ 20 := (nI_leI (b := 20) (by omega) (by omega)).mp z
              rw [show (if x + (c + ad) < 20 then x + (c + ad) else 20) = x + (c + ad) by split <;> omega] at hH
              exact after _ _ _ _ (by omega) hy1 z2 hy2 (ih m (by omega) (by omega) hok2 f2 0 _ y (by omega) (by omega) (by omega) z2 hy1 hy2 hH)
            · have z2 : ¬ x + (c + ad) ≤ 20 := fun v => z (nI_le (b := 20) v (by omega))
              rw [if_neg (by omega)] at hH
              rw [mt_71]
              exact after _ _ 20 _ (by omega) hy1 (by omega) hy2 (ih m (by omega) (by omega) hok2 f2 0 20 y (by omega) (by omega) (by omega) (by omega) hy1 hy2 hH)
          · subst w
            rw [if_neg (by omega)] at hH
            rw [md_72, nI_add, mt_72]
            refine ⟨fun z => ⟨vp_in_nI (by omega) (by omega), ?_⟩, fun z => ⟨vp_in_nI (by omega) (by omega), ?_⟩⟩
            · have z2 : y + (c + ad) ≤ 20 := (nI_leI (b := 20) (by omega) (by omega)).mp z
              rw [show (if y + (c + ad) < 20 then y + (c + ad) else 20) = y + (c + ad) by split <;> omega] at hH
              exact after _ _ _ _ hx1 (by omega) hx2 z2 (ih m (by omega) (by omega) hok2 f2 0 x _ (by omega) (by omega) hx1 hx2 (by omega) z2 hH)
            · have z2 : ¬ y + (c + ad) ≤ 20 := fun v => z (nI_le (b := 20) v (by omega))
              rw [if_neg (by omega)] at hH
              rw [mt_72]
              exact after _ _ _ 20 hx1 (by omega) hx2 (by omega) (ih m (by omega) (by omega) hok2 f2 0 x 20 (by omega) (by omega) hx1 hx2 (by omega) (by omega) hH)
        · rw [if_pos q0] at hH
          rw [ht0 (by omega)]
          rcases (by omega : a = 0 ∨ a = 1) with w | w
          · subst w
            have i3 : (2 : Int32) * nI d + 1 - nI 0 = nI (2 * d + 1) := by rw [show (2 : Int32) * nI d + 1 = nI (2 * d + 1) from i1, nI_sub (by omega)]; rfl
            rw [i3, nI_clamp (n := 2 * d + 1) (by omega), md_72, mt_72]
            refine ⟨vp_in_nI (by omega) (by omega), ?_⟩
            rw [if_pos rfl] at hH
            by_cases z : c + ad < y
            · rw [if_pos z] at hH
              rw [nI_sub (by omega)]
              exact after _ _ _ _ hx1 (by omega) hx2 (by omega) (ih m (by omega) (by omega) hok2 f2 0 x (y - (c + ad)) (by omega) (by omega) hx1 hx2 (by omega) (by omega) hH)
            · rw [if_neg z] at hH
              exact over _ _ _ _ (Or.inr ⟨nI_0lt (by omega) (by omega), sub_le0 (by omega) (by omega)⟩) (hH.2 (show ¬ (1 : Nat) = 0 by decide))
          · subst w
            have i3 : (2 : Int32) * nI d + 1 - nI 1 = nI (2 * d) := by rw [show (2 : Int32) * nI d + 1 = nI (2 * d + 1) from i1, nI_sub (by omega)]; rfl
            rw [i3, nI_clamp (n := 2 * d) (by omega), md_71, mt_71]
            refine ⟨vp_in_nI (by omega) (by omega), ?_⟩
            rw [if_neg (by omega)] at hH
            by_cases z : c + ad < x
            · rw [if_pos z] at hH
              rw [nI_sub (by omega)]
              exact after _ _ _ _ (by omega) hy1 (by omega) hy2 (ih m (by omega) (by omega) hok2 f2 0 (x - (c + ad)) y (by omega) (by omega) (by omega) (by omega) hy1 hy2 hH)
            · rw [if_neg z] at hH
              exact over _ _ _ _ (Or.inl (sub_le0 (by omega) (by omega))) (hH.2 (show ¬ (2 : Nat) = 0 by decide))
      unfold wX7_resolves_2
      rw [nI_clamp (n := d) (by omega), md_24, mt_24, md_24, show nI (m + 1) - 1 = nI m from nI_pred m, i16, nI_clamp (n := 16 * d + m) (by omega)]
      refine ⟨vp_in_nI (by omega) (by omega), fun q => absurd q (nI_nle (by omega) (by omega)), fun _ => ⟨vp_in_nI (by omega) (by omega), ?_⟩⟩
      intro x4 h4
      have h5 : x4 = nI (en m) := by
        rw [h4]
        exact hen m (by omega)
      subst h5
      intro x5 h5
      rw [g2] at h5
      subst h5
      rw [g1, g3, nI_add, hb4]
      exact ⟨fun z => h73 0 (fun w => absurd w z) (fun _ => rfl), fun z => h73 _ (fun _ => rfl) (fun w => absurd z w)⟩
