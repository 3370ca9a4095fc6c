/-! The ledger: postings on both sides. -/
abbrev LXp : Type := Nat × (Nat → Int32) × (Nat → Int32)
def hE (c : Nat) (a w : Int32) (x : LXp) : LXp := (x.1 + 1, va_up (va_up (va_up x.2.1 (3 * x.1) (nI c)) (3 * x.1 + 1) a) (3 * x.1 + 2) w, va_up x.2.2 c w)
def hS (c : Nat) (w : Int32) (x : LXp) : LXp := if w = -1 ∨ x.2.2 c = w then x else hE c (x.2.2 c) w x
def kL (K : KS) (r P : Nat) (f : Nat → Int32) : KS := kr (k3 (k3 K 1 5 0 (nI r)) 1 1 0 (nI P)) 11 0 f
def kH (K : KS) (r : Nat) (x : LXp) : KS := kr (kL K r x.1 x.2.1) 4 2 x.2.2
def mH (M : KS) (x : LXp) : KS := kr (kr (k3 M 3 11 0 (nI x.1)) 16 12 x.2.1) 16 7 x.2.2
/-- the same numbers as far as they count -/
def hRf (y x : LXp) : Prop := y.1 = x.1 ∧ (∀ j, j < 3 * x.1 → y.2.1 j = x.2.1 j) ∧ y.2.2 = x.2.2
def hR (n : Nat) (x y : LXp) : Prop := x.1 = y.1 ∧ (∀ j, j < 3 * x.1 → x.2.1 j = y.2.1 j) ∧ ∀ c, c < n → x.2.2 c = y.2.2 c
def hL (n : Nat) (x : LXp) : Prop := ∀ c, c < n → lastH x.2.1 (nI c) x.1 = x.2.2 c
theorem kH_id {K : KS} {r P : Nat} (h1 : K 1 1 0 = nI P) (h2 : K 1 5 0 = nI r) : kH K r (P, K 11 0, K 4 2) = K := by
  unfold kH kL
  rw [← h2, k3_id, ← h1, k3_id, show (P, K 11 0, K 4 2).2.1 = K 11 0 from rfl, kr_id, show (P, K 11 0, K 4 2).2.2 = K 4 2 from rfl, kr_id]
theorem mH_id {M : KS} {P : Nat} (h1 : M 3 11 0 = nI P) : mH M (P, M 16 12, M 16 7) = M := by
  unfold mH
  rw [show (P, M 16 12, M 16 7).1 = P from rfl, ← h1, k3_id, show (P, M 16 12, M 16 7).2.1 = M 16 12 from rfl, kr_id, show (P, M 16 12, M 16 7).2.2 = M 16 7 from rfl, kr_id]
theorem kr_ne (K : KS) {a b a2 b2 : Nat} (f : Nat → Int32) (h : ¬ (a = a2 ∧ b = b2)) : kr K a b f a2 b2 = K a2 b2 := by
  unfold kr va_up
  by_cases h1 : a2 = a
  · by_cases h2 : b2 = b
    · exact absurd ⟨h1.symm, h2.symm⟩ h
    · simp [h1, h2]
  · simp [h1]
theorem kH_sw {K : KS} {r a b : Nat} {x : LXp} (f : Nat → Int32) (h1 : ¬ (a = 1 ∧ b = 5)) (h2 : ¬ (a = 1 ∧ b = 1)) (h3 : ¬ (a = 11 ∧ b = 0)) (h4 : ¬ (a = 4 ∧ b = 2)) : kr (kH K r x) a b f = kH (kr K a b f) r x := by
  show kr (kr (kr (kr (kr K 1 5 (va_up (K 1 5) 0 (nI r))) 1 1 (va_up (K 1 1) 0 (nI x.1))) 11 0 x.2.1) 4 2 x.2.2) a b f = kr (kr (kr (kr (kr K a b f) 1 5 (va_up ((kr K a b f) 1 5) 0 (nI r))) 1 1 (va_up ((kr (kr K a b f) 1 5 (va_up ((kr K a b f) 1 5) 0 (nI r))) 1 1) 0 (nI x.1))) 11 0 x.2.1) 4 2 x.2.2
  rw [kr_ne _ _ (by omega : ¬ (1 = 1 ∧ 5 = 1)), kr_ne K f h1, kr_ne K f h2, kr_sw _ x.2.2 f (by omega), kr_sw _ x.2.1 f (by omega), kr_sw _ _ f (by omega), kr_sw _ _ f (by omega)]
theorem mH_sw {M : KS} {a b : Nat} {x : LXp} (f : Nat → Int32) (h1 : ¬ (a = 3 ∧ b = 11)) (h2 : ¬ (a = 16 ∧ b = 12)) (h3 : ¬ (a = 16 ∧ b = 7)) : kr (mH M x) a b f = mH (kr M a b f) x := by
  show kr (kr (kr (kr M 3 11 (va_up (M 3 11) 0 (nI x.1))) 16 12 x.2.1) 16 7 x.2.2) a b f = kr (kr (kr (kr M a b f) 3 11 (va_up ((kr M a b f) 3 11) 0 (nI x.1))) 16 12 x.2.1) 16 7 x.2.2
  rw [kr_ne M f h1, kr_sw _ x.2.2 f (by omega), kr_sw _ x.2.1 f (by omega), kr_sw _ _ f (by omega)]
theorem kL_eg {K : KS} {N r P : Nat} {f : Nat → Int32} : kL (eGrow K N) r P f = kL K r P f := by
  funext i j k
  unfold kL eGrow k3 kr va_up
  grind
theorem kL_kH {K : KS} {r r2 P : Nat} {x : LXp} {f : Nat → Int32} : kL (kH K r x) r2 P f = kH K r2 (P, f, x.2.2) := by
  funext i j k
  unfold kH kL k3 kr va_up
  grind
theorem kH_ow {K : KS} {r P : Nat} {f ow g : Nat → Int32} : kr (kH K r (P, f, ow)) 4 2 g = kH K r (P, f, g) := by
  unfold kH
  rw [kr_kr]
theorem e45 {post : Unit → KS → Prop} {mc ms uc us P r : Nat} {K : KS} {a b c : Int32} (g1 : K 1 1 0 = nI P) (g3 : K 1 5 0 = nI r) (hr : 3 * (P + 1) ≤ r) (hr2 : r ≤ 13824) (hp : post () (kL K r (P + 1) (va_up (va_up (va_up (K 11 0) (3 * P) a) (3 * P + 1) b) (3 * P + 2) c))) : wX3_enter_45 post mc ms uc us a b c K := by
  have e0 : (3 : Int32) * nI P = nI (3 * P) := nI_mul 3 P
  have e1 : nI (3 * P) + 1 = nI (3 * P + 1) := nI_add (3 * P) 1
  have e2 : nI (3 * P) + 2 = nI (3 * P + 2) := nI_add (3 * P) 2
  have hp2 : post () (kr (k3 K 1 1 0 (nI (P + 1))) 11 0 (va_up (va_up (va_up (K 11 0) (3 * P) a) (3 * P + 1) b) (3 * P + 2) c)) := by
    unfold kL at hp
    rw [← g3, k3_id] at hp
    exact hp
  unfold wX3_enter_45
  show vp_in (3 * (K 1 1 0)) (K 1 5 0).toNatClampNeg ∧ vp_in (3 * (K 1 1 0) + 1) (K 1 5 0).toNatClampNeg ∧ vp_in (3 * (K 1 1 0) + 2) (K 1 5 0).toNatClampNeg ∧ post () (k3 (k3 (k3 (k3 K 11 0 (3 * (K 1 1 0)).toNatClampNeg a) 11 0 (3 * (K 1 1 0) + 1).toNatClampNeg b) 11 0 (3 * (K 1 1 0) + 2).toNatClampNeg c) 1 1 0 (K 1 1 0 + 1))
  rw [g1, g3, e0, e1, e2, nI_clamp (n := r) (by omega), nI_clamp (by omega), nI_clamp (by omega), nI_clamp (by omega), nI_1]
  refine ⟨vp_in_nI (by omega) (by omega), vp_in_nI (by omega) (by omega), vp_in_nI (by omega) (by omega), ?_⟩
  have e : k3 (k3 (k3 (k3 K 11 0 (3 * P) a) 11 0 (3 * P + 1) b) 11 0 (3 * P + 2) c) 1 1 0 (nI (P + 1)) = kr (k3 K 1 1 0 (nI (P + 1))) 11 0 (va_up (va_up (va_up (K 11 0) (3 * P) a) (3 * P + 1) b) (3 * P + 2) c) := by
    show kr (kr (kr (kr K 11 0 (va_up (K 11 0) (3 * P) a)) 11 0 (va_up (va_up (K 11 0) (3 * P) a) (3 * P + 1) b)) 11 0 (va_up (va_up (va_up (K 11 0) (3 * P) a) (3 * P + 1) b) (3 * P + 2) c)) 1 1 (va_up (K 1 1) 0 (nI (P + 1))) = kr (kr K 1 1 (va_up (K 1 1) 0 (nI (P + 1)))) 11 0 _
    rw [kr_kr, kr_kr, kr_sw _ _ _ (by omega)]
  rw [e]
  exact hp2
/-- a posting is entered; the row may grow by that -/
theorem en_ok {post : Unit → KS → Prop} {mc ms P r : Nat} {K : KS} {a b c : Int32} (g1 : K 1 1 0 = nI P) (g3 : K 1 5 0 = nI r) (g4 : rOK r) (g5 : 3 * P ≤ r) (hP : P < 4000) (hb : 3 * (P + 1) ≤ r ∨ (1 ≤ mc ∧ 2 * r ≤ ms)) (hp : ∀ r2, rOK r2 → 3 * (P + 1) ≤ r2 → (r2 = r ∨ (r2 = 2 * r ∧ ¬ 3 * (P + 1) ≤ r)) → ∀ f, (∀ j, j < 3 * (P + 1) → f j = va_up (va_up (va_up (K 11 0) (3 * P) a) (3 * P + 1) b) (3 * P + 2) c j) → post () (kL K r2 (P + 1) f)) : wpX3_enter post mc ms K a b c := by
  have hr := rOK_le g4
  have e0 : (3 : Int32) * nI P + 3 = nI (3 * P + 3) := by rw [← nI_add, ← nI_mul]; rfl
  unfold wpX3_enter
  rw [g1, g3, nI_clamp (n := r) (by omega), e0]
  refine ⟨fun _ => ⟨fun q => ?_, fun q => ?_⟩, fun q => absurd (nI_lt (b := 4608) (by omega) (by omega)) q⟩
  · have q2 : 3 * P + 3 ≤ r := (nI_leI (by omega) (by omega)).mp q
    exact e45 g1 g3 (by omega) hr.2 (hp r g4 (by omega) (Or.inl rfl) _ (fun _ _ => rfl))
  · have q2 : ¬ 3 * P + 3 ≤ r := fun z => q (nI_le z (by omega))
    rcases hb with z | ⟨z1, z2⟩
    · omega
    · have g42 : rOK (2 * r) := by
        unfold rOK at g4 ⊢
        omega
      have hr3 := rOK_le g42
      refine ⟨2 * r, 1, 2 * r, by omega, by omega, ⟨nI_mul 2 r, r, g3, by omega, by omega, by omega, by omega⟩, e45 (K := eGrow K (2 * r)) (P := P) (r := 2 * r) g1 rfl (by omega) hr3.2 ?_⟩
      rw [kL_eg]
      refine hp (2 * r) g42 (by omega) (Or.inr ⟨rfl, by omega⟩) _ (fun j hj => ?_)
      rw [up_if, up_if, up_if, up_if, up_if, up_if]
      have e : (eGrow K (2 * r)) 11 0 j = if 0 ≤ j ∧ j < 0 + (K 1 5 0).toNatClampNeg then K 11 0 (0 + (j - 0)) else 0 := rfl
      rw [e, g3, nI_clamp (n := r) (by omega)]
      by_cases c1 : j = 3 * P + 2
      · rw [if_pos c1, if_pos c1]
      · rw [if_neg c1, if_neg c1]
        by_cases c2 : j = 3 * P + 1
        · rw [if_pos c2, if_pos c2]
        · rw [if_neg c2, if_neg c2]
          by_cases c3 : j = 3 * P
          · rw [if_pos c3, if_pos c3]
          · rw [if_neg c3, if_neg c3, if_pos (by omega), Nat.zero_add, Nat.sub_zero]
/-- a card is handed on, by the side that is held -/
theorem hand_ok {post : Unit → KS → Prop} {mc ms r c nc : Nat} {K : KS} {y x : LXp} {w : Int32} (hyx : hRf y x) (g4 : rOK r) (g5 : 3 * x.1 ≤ r) (hP : x.1 < 4000) (hn : nC K = nc) (hc : c < nc) (h0 : K 4 0 c = nI c) (hw : w ≠ -1) (hb : x.2.2 c = w ∨ 3 * (x.1 + 1) ≤ r ∨ (1 ≤ mc ∧ 2 * r ≤ ms)) (hp : ∀ r2 y2, rOK r2 → 3 * (hS c w x).1 ≤ r2 → (r2 = r ∨ (r2 = 2 * r ∧ ¬ 3 * (x.1 + 1) ≤ r ∧ x.2.2 c ≠ w)) → hRf y2 (hS c w x) → post () (kH K r2 y2)) : wpX6_hand post mc ms (kH K r y) c w := by
  obtain ⟨h1, h2, h3⟩ := hyx
  have eo : kH K r y 4 2 c = x.2.2 c := by
    show y.2.2 c = _
    rw [h3]
  unfold wpX6_hand
  rw [eo]
  refine ⟨by show c < nC K; omega, fun q => ?_, fun q => ?_⟩
  · refine hp r y g4 ?_ (Or.inl rfl) ?_
    · unfold hS
      rw [if_pos (Or.inr q)]
      exact g5
    · unfold hS
      rw [if_pos (Or.inr q)]
      exact ⟨h1, h2, h3⟩
  · have es : hS c w x = hE c (x.2.2 c) w x := by
      unfold hS
      rw [if_neg (fun z => z.elim hw q)]
    have hb2 : 3 * (x.1 + 1) ≤ r ∨ (1 ≤ mc ∧ 2 * r ≤ ms) := hb.resolve_left q
    have ec : kH K r y 4 0 c = nI c := h0
    rw [ec]
    refine ⟨mc, ms, by omega, by omega, en_ok (P := x.1) (r := r) ?_ rfl g4 g5 hP hb2 (fun r2 q1 q2 q3 f hf => ?_)⟩
    · show nI y.1 = _
      rw [h1]
    · rw [kL_kH]
      refine ⟨by show c < nC K; omega, ?_⟩
      show post () (kr (kH K r2 (x.1 + 1, f, y.2.2)) 4 2 (va_up y.2.2 c w))
      rw [kH_ow]
      refine hp r2 _ q1 (by rw [es]; exact q2) ?_ ?_
      · rcases q3 with q3 | q3
        · exact Or.inl q3
        · exact Or.inr ⟨q3.1, q3.2, q⟩
      · rw [es]
        refine ⟨rfl, fun j hj => ?_, ?_⟩
        · show f j = _
          rw [hf j hj]
          show va_up (va_up (va_up y.2.1 (3 * x.1) (nI c)) (3 * x.1 + 1) (x.2.2 c)) (3 * x.1 + 2) w j = va_up (va_up (va_up x.2.1 (3 * x.1) (nI c)) (3 * x.1 + 1) (x.2.2 c)) (3 * x.1 + 2) w j
          rw [up_if, up_if, up_if, up_if, up_if, up_if]
          by_cases c1 : j = 3 * x.1 + 2
          · rw [if_pos c1, if_pos c1]
          · rw [if_neg c1, if_neg c1]
            by_cases c2 : j = 3 * x.1 + 1
            · rw [if_pos c2, if_pos c2]
            · rw [if_neg c2, if_neg c2]
              by_cases c3 : j = 3 * x.1
              · rw [if_pos c3, if_pos c3]
              · rw [if_neg c3, if_neg c3]
                have hj2 : j < 3 * (x.1 + 1) := hj
                exact h2 j (by omega)
        · show va_up y.2.2 c w = va_up x.2.2 c w
          rw [h3]
theorem hS_R {n c : Nat} {w : Int32} {x y : LXp} (hc : c < n) (h : hR n x y) : hR n (hS c w x) (hS c w y) := by
  obtain ⟨h1, h2, h3⟩ := h
  unfold hS
  rw [h3 c hc]
  by_cases q : w = -1 ∨ y.2.2 c = w
  · rw [if_pos q, if_pos q]
    exact ⟨h1, h2, h3⟩
  · rw [if_neg q, if_neg q]
    refine ⟨by show x.1 + 1 = y.1 + 1; rw [h1], fun j hj => ?_, fun i hi => ?_⟩
    · have hj2 : j < 3 * (x.1 + 1) := hj
      show va_up (va_up (va_up x.2.1 (3 * x.1) (nI c)) (3 * x.1 + 1) (y.2.2 c)) (3 * x.1 + 2) w j = va_up (va_up (va_up y.2.1 (3 * y.1) (nI c)) (3 * y.1 + 1) (y.2.2 c)) (3 * y.1 + 2) w j
      rw [← h1, up_if, up_if, up_if, up_if, up_if, up_if]
      by_cases c1 : j = 3 * x.1 + 2
      · rw [if_pos c1, if_pos c1]
      · rw [if_neg c1, if_neg c1]
        by_cases c2 : j = 3 * x.1 + 1
        · rw [if_pos c2, if_pos c2]
        · rw [if_neg c2, if_neg c2]
          by_cases c3 : j = 3 * x.1
          · rw [if_pos c3, if_pos c3]
          · rw [if_neg c3, if_neg c3]
            exact h2 j (by omega)
    · show va_up x.2.2 c w i = va_up y.2.2 c w i
      rw [up_if, up_if, h3 i hi]
theorem hE_L {n c : Nat} {a w : Int32} {x : LXp} (hn : n ≤ 1000) (hc : c < 1000) (h : ∀ i, i < n → i ≠ c → lastH x.2.1 (nI i) x.1 = x.2.2 i) : hL n (hE c a w x) := by
  intro i hi
  have e0 : (hE c a w x).2.1 (3 * x.1) = nI c := by
    show va_up (va_up (va_up x.2.1 (3 * x.1) (nI c)) (3 * x.1 + 1) a) (3 * x.1 + 2) w (3 * x.1) = _
    rw [up_if, if_neg (by omega), up_if, if_neg (by omega), up_if, if_pos rfl]
  have e2 : (hE c a w x).2.1 (3 * x.1 + 2) = w := by
    show va_up (va_up (va_up x.2.1 (3 * x.1) (nI c)) (3 * x.1 + 1) a) (3 * x.1 + 2) w (3 * x.1 + 2) = _
    rw [up_if, if_pos rfl]
  show (if (hE c a w x).2.1 (3 * x.1) = nI i then (hE c a w x).2.1 (3 * x.1 + 2) else lastH (hE c a w x).2.1 (nI i) x.1) = va_up x.2.2 c w i
  rw [e0, e2, up_if]
  by_cases q : i = c
  · rw [if_pos q, if_pos (by rw [q])]
  · rw [if_neg q, if_neg (nI_ne (by omega) (by omega) (fun z => q z.symm)), ← h i hi q]
    refine lastH_cong (fun j hj => ?_)
    show va_up (va_up (va_up x.2.1 (3 * x.1) (nI c)) (3 * x.1 + 1) a) (3 * x.1 + 2) w j = _
    rw [up_if, if_neg (by omega), up_if, if_neg (by omega), up_if, if_neg (by omega)]
theorem hS_L {n c : Nat} {w : Int32} {x : LXp} (hn : n ≤ 1000) (hc : c < n) (h : hL n x) : hL n (hS c w x) := by
  unfold hS
  by_cases q : w = -1 ∨ x.2.2 c = w
  · rw [if_pos q]
    exact h
  · rw [if_neg q]
    exact hE_L hn (by omega) (fun i hi _ => h i hi)
theorem hL_f {n : Nat} {x y : LXp} (h : hRf y x) (hx : hL n x) : hL n y := by
  intro c hc
  rw [h.1, lastH_cong (g := x.2.1) (fun j hj => h.2.1 j hj), h.2.2]
  exact hx c hc
theorem hS_le {c : Nat} {w : Int32} {x : LXp} : (hS c w x).1 ≤ x.1 + 1 := by
  unfold hS
  by_cases q : w = -1 ∨ x.2.2 c = w
  · rw [if_pos q]
    omega
  · rw [if_neg q]
    exact Nat.le_refl _
theorem hS_ow {c : Nat} {w : Int32} {x : LXp} (i : Nat) : (hS c w x).2.2 i = if i = c ∧ w ≠ -1 then w else x.2.2 i := by
  unfold hS
  by_cases q : w = -1 ∨ x.2.2 c = w
  · rw [if_pos q]
    by_cases z : i = c ∧ w ≠ -1
    · rw [if_pos z, z.1]
      exact q.resolve_left z.2
    · rw [if_neg z]
  · rw [if_neg q]
    show va_up x.2.2 c w i = _
    rw [up_if]
    by_cases z : i = c
    · rw [if_pos z, if_pos ⟨z, fun y => q (Or.inl y)⟩]
    · rw [if_neg z, if_neg (fun y => z y.1)]

