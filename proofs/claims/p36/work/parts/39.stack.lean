/-! The stack is done: both sides by one picture. -/
def stk (en : Nat → Nat) : Nat → Nat → Nat → Nat → Nat → Nat × Int32 × Int32
  | 0, _, _, x, y => (0, nI x, nI y)
  | n + 1, fl, ad, x, y =>
    if fl = 1 then stk en n 0 0 x y
    else if en n / 10 % 10 = 0 then
      (if en n / 100 = 0 then (if en n % 10 + ad < y then stk en n 0 0 x (y - (en n % 10 + ad)) else (1, nI x, nI y - nI (en n % 10 + ad)))
       else (if en n % 10 + ad < x then stk en n 0 0 (x - (en n % 10 + ad)) y else (2, nI x - nI (en n % 10 + ad), nI y)))
    else if en n / 10 % 10 = 1 then
      (if en n / 100 = 0 then stk en n 0 0 (if x + (en n % 10 + ad) < 20 then x + (en n % 10 + ad) else 20) y
       else stk en n 0 0 x (if y + (en n % 10 + ad) < 20 then y + (en n % 10 + ad) else 20))
    else if en n / 10 % 10 = 2 then stk en n 1 0 x y
    else stk en n 0 (en n % 10 + ad) x y
def kSt (K : KS) (d : Nat) (a x y : Int32) : KS := k3 (k3 (k3 K 6 7 d a) 7 1 (2 * d) x) 7 1 (2 * d + 1) y
def mSt (M : KS) (d : Nat) (a x y : Int32) : KS := k3 (k3 (k3 M 16 24 d a) 16 18 (2 * d) x) 16 18 (2 * d + 1) y
theorem st_67 (K : KS) (d : Nat) (a x y b : Int32) : k3 (kSt K d a x y) 6 7 d b = kSt K d b x y := by
  funext i j k
  unfold kSt
  simp only [k3_if]
  grind
theorem st_71 (K : KS) (d : Nat) (a x y b : Int32) : k3 (kSt K d a x y) 7 1 (2 * d) b = kSt K d a b y := by
  funext i j k
  unfold kSt
  simp only [k3_if]
  grind
theorem st_72 (K : KS) (d : Nat) (a x y b : Int32) : k3 (kSt K d a x y) 7 1 (2 * d + 1) b = kSt K d a x b := by
  funext i j k
  unfold kSt
  simp only [k3_if]
  grind
theorem rd_67 (K : KS) (d : Nat) (a x y : Int32) : kSt K d a x y 6 7 d = a := by
  unfold kSt
  rw [k3_if, if_neg (by omega), k3_if, if_neg (by omega), k3_if, if_pos ⟨rfl, rfl, rfl⟩]
theorem rd_71 (K : KS) (d : Nat) (a x y : Int32) : kSt K d a x y 7 1 (2 * d) = x := by
  unfold kSt
  rw [k3_if, if_neg (by omega), k3_if, if_pos ⟨rfl, rfl, rfl⟩]
theorem rd_72 (K : KS) (d : Nat) (a x y : Int32) : kSt K d a x y 7 1 (2 * d + 1) = y := by
  unfold kSt
  rw [k3_if, if_pos ⟨rfl, rfl, rfl⟩]
theorem mt_24 (M : KS) (d : Nat) (a x y b : Int32) : k3 (mSt M d a x y) 16 24 d b = mSt M d b x y := by
  funext i j k
  unfold mSt
  simp only [k3_if]
  grind
theorem mt_71 (M : KS) (d : Nat) (a x y b : Int32) : k3 (mSt M d a x y) 16 18 (2 * d) b = mSt M d a b y := by
  funext i j k
  unfold mSt
  simp only [k3_if]
  grind
theorem mt_72 (M : KS) (d : Nat) (a x y b : Int32) : k3 (mSt M d a x y) 16 18 (2 * d + 1) b = mSt M d a x b := by
  funext i j k
  unfold mSt
  simp only [k3_if]
  grind
theorem md_24 (M : KS) (d : Nat) (a x y : Int32) : mSt M d a x y 16 24 d = a := by
  unfold mSt
  rw [k3_if, if_neg (by omega), k3_if, if_neg (by omega), k3_if, if_pos ⟨rfl, rfl, rfl⟩]
theorem md_71 (M : KS) (d : Nat) (a x y : Int32) : mSt M d a x y 16 18 (2 * d) = x := by
  unfold mSt
  rw [k3_if, if_neg (by omega), k3_if, if_pos ⟨rfl, rfl, rfl⟩]
theorem md_72 (M : KS) (d : Nat) (a x y : Int32) : mSt M d a x y 16 18 (2 * d + 1) = y := by
  unfold mSt
  rw [k3_if, if_pos ⟨rfl, rfl, rfl⟩]
theorem sub_le0 {y p : Nat} (h : y ≤ p) (hp : p < 1000) : nI y - nI p ≤ 0 := by
  rw [Int32.le_iff_toInt_le, sub_small (nI_toInt (n := y) (by omega)) (nI_toInt (n := p) (by omega)) (by omega) (by omega)]
  show (y : Int) - (p : Int) ≤ 0
  omega
theorem nI_0lt {n : Nat} (h : 0 < n) (h2 : n < 2 ^ 31) : 0 < nI n := nI_lt (a := 0) h h2
theorem cap20 {n : Nat} (h : n < 1000) : (if nI n < (20 : Int32) then nI n else 20) = nI (if n < 20 then n else 20) := by
  by_cases z : n < 20
  · rw [if_pos z, if_pos (show nI n < (20 : Int32) from nI_lt (b := 20) z (by omega))]
  · rw [if_neg z, if_neg (show ¬ nI n < (20 : Int32) from nI_nlt (b := 20) (a := n) (by omega) (by omega))]
    rfl
def enOK (v : Nat) : Prop := ∃ a b c, a ≤ 1 ∧ b ≤ 3 ∧ 1 ≤ c ∧ c ≤ 4 ∧ v = 100 * a + 10 * b + c
theorem dig (v : Nat) (h : enOK v) : nI v / 100 = nI (v / 100) ∧ nI v / 10 - nI v / 10 / 10 * 10 = nI (v / 10 % 10) ∧ nI v - nI v / 10 * 10 = nI (v % 10) := by
  obtain ⟨a, b, c, ha, hb, hc, hc2, rfl⟩ := h
  refine ⟨pk_div (d := 100) (by omega) (by omega) (by omega), ?_, pk_rem (d := 10) (by omega) (by omega) (by omega)⟩
  rw [show nI (100 * a + 10 * b + c) / 10 = nI ((100 * a + 10 * b + c) / 10) from pk_div (d := 10) (by omega) (by omega) (by omega)]
  exact pk_rem (d := 10) (by omega) (by omega) (by omega)
/-- what is owed at the end of the stack, on the side that is held -/
def stH (post : Unit → KS → Prop) (K : KS) (d : Nat) (R : Nat × Int32 × Int32) : Prop := (R.1 = 0 → post () (kSt K d 0 R.2.1 R.2.2)) ∧ (R.1 = 1 → post () (k3 (k3 (kSt K d 0 R.2.1 R.2.2) 6 2 d 101) 6 3 d (K 7 0 (2 * d)))) ∧ (R.1 = 2 → post () (k3 (k3 (kSt K d 0 R.2.1 R.2.2) 6 2 d 101) 6 3 d (K 7 0 (2 * d + 1))))
theorem cl_stack {post : Unit → KS → Prop} {K : KS} {d nd n0 : Nat} {en : Nat → Nat} (hD : nD K = nd) (hd : d < nd) (hn0 : n0 ≤ 8) (hen : ∀ i, i < n0 → K 17 d i = nI (en i)) : ∀ N n, n ≤ N → n ≤ n0 → (∀ i, i < n → enOK (en i)) → ∀ f ad x y, n < f → ad + 4 * n ≤ 32 → 1 ≤ x → x ≤ 20 → 1 ≤ y → y ≤ 20 → stH post K d (stk en n 0 ad x y) → wX2_doStack_2 post f d (nI ad) (kSt K d (nI n) (nI x) (nI y)) := by
  have base : ∀ f ad K2, K2 6 7 d = 0 → 0 < f → nD K2 = nd → post () K2 → wX2_doStack_2 post f d ad K2 := by
    intro f ad K2 h0 hf hD2 hp
    obtain ⟨f2, rfl⟩ : ∃ f2, f = f2 + 1 := ⟨f - 1, by omega⟩
    unfold wX2_doStack_2
    rw [h0]
    exact ⟨by omega, fun _ => hp, fun q => absurd (Int32.le_refl 0) q⟩
  intro N
  induction N with
  | zero =>
    intro n hn _ _ f ad x y hf _ _ _ _ _ hH
    have : n = 0 := by omega
    subst this
    exact base f _ _ (rd_67 _ _ _ _ _) hf hD (hH.1 rfl)
  | succ N ih =>
    intro n hn hn8 hok f ad x y hf had hx1 hx2 hy1 hy2 hH
    rcases (by omega : n = 0 ∨ 1 ≤ n) with rfl | h1
    · exact base f _ _ (rd_67 _ _ _ _ _) hf hD (hH.1 rfl)
    · obtain ⟨m, rfl⟩ : ∃ m, n = m + 1 := ⟨n - 1, by omega⟩
      obtain ⟨f2, rfl⟩ : ∃ f2, f = f2 + 1 := ⟨f - 1, by omega⟩
      have hv := hok m (by omega)
      obtain ⟨g1, g2, g3⟩ := dig (en m) hv
      obtain ⟨a, b, c, ha, hb, hc, hc2, hv2⟩ := hv
      have r1 : en m / 100 = a := by omega
      have r2 : en m / 10 % 10 = b := by omega
      have r3 : en m % 10 = c := by omega
      rw [r1] at g1
      rw [r2] at g2
      rw [r3] at g3
      have e17 : (kSt K d (nI m) (nI x) (nI y)) 17 d m = nI (en m) := hen m (by omega)
      have hok2 : ∀ i, i < m → enOK (en i) := fun i hi => hok i (by omega)
      have hst : stk en (m + 1) 0 ad x y = if b = 0 then (if a = 0 then (if c + ad < y then stk en m 0 0 x (y - (c + ad)) else (1, nI x, nI y - nI (c + ad))) else (if c + ad < x then stk en m 0 0 (x - (c + ad)) y else (2, nI x - nI (c + ad), nI y))) else if b = 1 then (if a = 0 then stk en m 0 0 (if x + (c + ad) < 20 then x + (c + ad) else 20) y else stk en m 0 0 x (if y + (c + ad) < 20 then y + (c + ad) else 20)) else if b = 2 then stk en m 1 0 x y else stk en m 0 (c + ad) x y := by
        show (if (0 : Nat) = 1 then _ else _) = _
        rw [if_neg (by omega), r1, r2, r3]
      rw [hst] at hH
      unfold wX2_doStack_2
      rw [rd_67, st_67, rd_67, show nI (m + 1) - 1 = nI m from nI_pred m, nI_clamp (n := m) (by omega), e17, g1, g2, g3, nI_add]
      refine ⟨by show d < nD K; omega, fun q => absurd q (nI_nle (by omega) (by omega)), fun _ => ⟨fun q => absurd q (nI_nlt (b := m + 1) (a := 8) (by omega) (by omega)), fun _ => ⟨vp_in_nI (by omega) (by omega), ?_⟩⟩⟩
      intro x5 h5 x6 h6 x7 h7
      subst h5
      subst h6
      subst h7
      unfold wX2_doStack_132
      have hb1 : (nI b = 0 ↔ b = 0) := nI_eq (a := b) (b := 0) (by omega) (by omega)
      have hb2 : (nI b = 1 ↔ b = 1) := nI_eq (a := b) (b := 1) (by omega) (by omega)
      have hb3 : (nI b = 2 ↔ b = 2) := nI_eq (a := b) (b := 2) (by omega) (by omega)
      have ha0 : (nI a = 0 ↔ a = 0) := nI_eq (a := a) (b := 0) (by omega) (by omega)
      rw [hb1, hb2, hb3]
      have hDs : ∀ u v w : Int32, nD (kSt K d u v w) = nd := fun _ _ _ => hD
      have over : ∀ (u v w : Int32), post () (k3 (k3 (kSt K d 0 u v) 6 2 d 101) 6 3 d w) → wX2_doStack_2 post f2 d 0 (k3 (k3 (kSt K d 0 u v) 6 2 d 101) 6 3 d w) := by
        intro u v w hp
        refine base f2 _ _ ?_ (by omega) hD hp
        show kSt K d 0 u v 6 7 d = 0
        exact rd_67 _ _ _ _ _
      refine ⟨fun q0 => ⟨fun q1 => ⟨fun q2 => ?_, fun q2 => ?_⟩, fun q1 => ?_⟩, fun q0 => ?_⟩
      · rw [if_neg q0, if_neg q1, if_neg q2] at hH
        exact ih m (by omega) (by omega) hok2 f2 (c + ad) x y (by omega) (by omega) hx1 hx2 hy1 hy2 hH
      · rw [if_neg q0, if_neg q1, if_pos q2] at hH
        rw [st_67]
        rcases (by omega : m = 0 ∨ 1 ≤ m) with hm | hm
        · subst hm
          rw [if_neg (by decide)]
          exact base f2 _ _ (rd_67 _ _ _ _ _) (by omega) hD (hH.1 rfl)
        · obtain ⟨m2, rfl⟩ : ∃ m2, m = m2 + 1 := ⟨m - 1, by omega⟩
          have e2 : (if 0 < nI (m2 + 1) - 1 then nI (m2 + 1) - 1 else 0) = nI m2 := by
            rw [nI_pred]
            rcases (by omega : m2 = 0 ∨ 0 < m2) with z | z
            · subst z
              rfl
            · rw [if_pos (nI_0lt z (by omega))]
          rw [e2]
          have hH2 : stH post K d (stk en m2 0 0 x y) := hH
          exact ih m2 (by omega) (by omega) (fun i hi => hok i (by omega)) f2 0 x y (by omega) (by omega) hx1 hx2 hy1 hy2 hH2
      · rw [if_neg q0, if_pos q1] at hH
        unfold wpX2_healOwn wX2_healOwn_15
        refine ⟨fun w => ⟨by rw [hDs]; omega, by rw [hDs]; omega, ?_⟩, fun w => ⟨by rw [hDs]; omega, by rw [hDs]; omega, ?_⟩⟩
        · rw [if_neg (fun z => w (ha0.mpr z))] at hH
          rw [rd_72, st_72, nI_add]
          have e2 := cap20 (n := y + (c + ad)) (by omega)
          rw [e2]
          refine ih m (by omega) (by omega) hok2 f2 0 x _ (by omega) (by omega) hx1 hx2 ?_ ?_ hH
          · split <;> omega
          · split <;> omega
        · rw [if_pos (ha0.mp w)] at hH
          rw [rd_71, st_71, nI_add]
          have e2 := cap20 (n := x + (c + ad)) (by omega)
          rw [e2]
          refine ih m (by omega) (by omega) hok2 f2 0 _ y (by omega) (by omega) ?_ ?_ hy1 hy2 hH
          · split <;> omega
          · split <;> omega
      · rw [if_pos q0] at hH
        unfold wpX2_hurtOtherOf wX2_hurtOtherOf_15 wX2_hurtOtherOf_31 wpX2_end
        refine ⟨fun w => ⟨by rw [hDs]; omega, fun _ => ⟨by rw [hDs]; omega, by rw [hDs]; omega, ?_⟩, fun w2 => absurd w2 w⟩, fun w => ⟨by rw [hDs]; omega, fun w2 => absurd w w2, fun _ => ⟨by rw [hDs]; omega, by rw [hDs]; omega, ?_⟩⟩⟩
        · rw [if_neg (fun z => w (ha0.mpr z))] at hH
          rw [rd_71, st_71, rd_71, st_67]
          by_cases z : c + ad < x
          · rw [if_pos z] at hH
            rw [nI_sub (by omega)]
            refine ⟨fun _ => ih m (by omega) (by omega) hok2 f2 0 (x - (c + ad)) y (by omega) (by omega) (by omega) (by omega) hy1 hy2 hH, fun z2 => absurd (nI_0lt (by omega) (by omega)) z2⟩
          · rw [if_neg z] at hH
            have hle := sub_le0 (y := x) (p := c + ad) (by omega) (by omega)
            exact ⟨fun z2 => absurd z2 (Int32.not_lt.mpr hle), fun _ => ⟨by rw [hDs]; omega, by rw [hDs]; omega, by rw [hDs]; omega, over _ _ _ (hH.2.2 rfl)⟩⟩
        · rw [if_pos (ha0.mp w)] at hH
          rw [rd_72, st_72, rd_72, st_67]
          by_cases z : c + ad < y
          · rw [if_pos z] at hH
            rw [nI_sub (by omega)]
            refine ⟨fun _ => ih m (by omega) (by omega) hok2 f2 0 x (y - (c + ad)) (by omega) (by omega) hx1 hx2 (by omega) (by omega) hH, fun z2 => absurd (nI_0lt (by omega) (by omega)) z2⟩
          · rw [if_neg z] at hH
            have hle := sub_le0 (y := y) (p := c + ad) (by omega) (by omega)
            exact ⟨fun z2 => absurd z2 (Int32.not_lt.mpr hle), fun _ => ⟨by rw [hDs]; omega, by rw [hDs]; omega, by rw [hDs]; omega, over _ _ _ (hH.2.1 rfl)⟩⟩
