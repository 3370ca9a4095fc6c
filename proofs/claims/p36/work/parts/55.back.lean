/-! Offers dropped, cards taken back, restakes. -/
def oF (a b c : Nat → Int32) (d : Nat) : Nat → (Nat → Int32)
  | 0 => a
  | i + 1 => if a i = 111 ∧ c (b i).toNatClampNeg = nI d then va_up (oF a b c d i) i 103 else oF a b c d i
def oG (a b c g : Nat → Int32) (d : Nat) : Nat → (Nat → Int32)
  | 0 => g
  | i + 1 => if a i = 111 ∧ c (b i).toNatClampNeg = nI d then va_up (oG a b c g d i) (b i).toNatClampNeg 0 else oG a b c g d i
def oZ (Z : KS) (d i : Nat) : KS := kr (kr Z 5 4 (oF (Z 5 4) (Z 5 0) (Z 4 5) d i)) 4 4 (oG (Z 5 4) (Z 5 0) (Z 4 5) (Z 4 4) d i)
theorem oF_ge {a b c : Nat → Int32} {d k : Nat} : ∀ i, i ≤ k → oF a b c d i k = a k := by
  intro i
  induction i with
  | zero => intro _; rfl
  | succ i ih =>
    intro h
    show (if a i = 111 ∧ c (b i).toNatClampNeg = nI d then va_up (oF a b c d i) i 103 else oF a b c d i) k = _
    by_cases q : a i = 111 ∧ c (b i).toNatClampNeg = nI d
    · rw [if_pos q, up_if, if_neg (by omega)]
      exact ih (by omega)
    · rw [if_neg q]
      exact ih (by omega)
theorem oF_if {a b c : Nat → Int32} {d k : Nat} : ∀ i, k < i → oF a b c d i k = if a k = 111 ∧ c (b k).toNatClampNeg = nI d then 103 else a k := by
  intro i
  induction i with
  | zero => intro h; omega
  | succ i ih =>
    intro h
    show (if a i = 111 ∧ c (b i).toNatClampNeg = nI d then va_up (oF a b c d i) i 103 else oF a b c d i) k = _
    by_cases z : k = i
    · subst z
      by_cases q : a k = 111 ∧ c (b k).toNatClampNeg = nI d
      · rw [if_pos q, if_pos q, va_up_s]
      · rw [if_neg q, if_neg q]
        exact oF_ge k (Nat.le_refl k)
    · by_cases q : a i = 111 ∧ c (b i).toNatClampNeg = nI d
      · rw [if_pos q, up_if, if_neg z]
        exact ih (by omega)
      · rw [if_neg q]
        exact ih (by omega)
theorem oG_hit {a b c g : Nat → Int32} {d x : Nat} : ∀ i, (∃ k, k < i ∧ a k = 111 ∧ c (b k).toNatClampNeg = nI d ∧ (b k).toNatClampNeg = x) → oG a b c g d i x = 0 := by
  intro i
  induction i with
  | zero =>
    intro h
    obtain ⟨k, h1, _⟩ := h
    omega
  | succ i ih =>
    intro h
    obtain ⟨k, h1, h2, h3, h4⟩ := h
    show (if a i = 111 ∧ c (b i).toNatClampNeg = nI d then va_up (oG a b c g d i) (b i).toNatClampNeg 0 else oG a b c g d i) x = 0
    by_cases q : a i = 111 ∧ c (b i).toNatClampNeg = nI d
    · rw [if_pos q, up_if]
      by_cases z : x = (b i).toNatClampNeg
      · rw [if_pos z]
      · rw [if_neg z]
        refine ih ⟨k, ?_, h2, h3, h4⟩
        rcases (by omega : k < i ∨ k = i) with y | y
        · exact y
        · rw [y] at h4
          exact absurd h4.symm z
    · rw [if_neg q]
      refine ih ⟨k, ?_, h2, h3, h4⟩
      rcases (by omega : k < i ∨ k = i) with y | y
      · exact y
      · rw [y] at h2 h3
        exact absurd ⟨h2, h3⟩ q
theorem oG_not {a b c g : Nat → Int32} {d x : Nat} : ∀ i, (∀ k, k < i → a k = 111 → c (b k).toNatClampNeg = nI d → (b k).toNatClampNeg ≠ x) → oG a b c g d i x = g x := by
  intro i
  induction i with
  | zero => intro _; rfl
  | succ i ih =>
    intro h
    show (if a i = 111 ∧ c (b i).toNatClampNeg = nI d then va_up (oG a b c g d i) (b i).toNatClampNeg 0 else oG a b c g d i) x = _
    have hi := ih (fun k hk => h k (by omega))
    by_cases q : a i = 111 ∧ c (b i).toNatClampNeg = nI d
    · rw [if_pos q, up_if, if_neg (fun z => h i (by omega) q.1 q.2 z.symm)]
      exact hi
    · rw [if_neg q]
      exact hi
theorem oZ_step (Z : KS) (f g f2 g2 : Nat → Int32) : kr (kr (kr (kr Z 5 4 f) 4 4 g) 5 4 f2) 4 4 g2 = kr (kr Z 5 4 f2) 4 4 g2 := by
  rw [kr_sw _ g f2 (by omega), kr_kr, kr_kr]
theorem cl_dropO {post : Unit → KS → Prop} {Z : KS} {no nc d : Nat} (hO : nO Z = no) (hC : nC Z = nc) (no1 : Z 8 2 2 = nI no) (lc2 : lcp (Z 8 3 2) no) (hno : no ≤ 60) (hnc : nc ≤ 40) (l2 : ∀ j, j < no → Z 9 2 j = nI j) (h5 : ∀ k, k < no → ∃ c, c < nc ∧ Z 5 0 k = nI c) (hp : post () (oZ Z d no)) : ∀ m i, i + m = no → wX6_dropOffers_2 post (m + 1) (nI d) (nI i) (oZ Z d i) := by
  intro m
  induction m with
  | zero =>
    intro i hi
    have hi2 : i = no := by omega
    subst hi2
    unfold wX6_dropOffers_2
    exact ⟨fun _ => hp, fun z => absurd (by show Z 8 2 2 ≤ nI i; rw [no1]; exact nI_le (by omega) (by omega)) z⟩
  | succ m ih =>
    intro i hi
    obtain ⟨c, c1, c2⟩ := h5 i (by omega)
    have a := ih (i + 1) (by omega)
    have e : (Z 9 2 (nI i).toNatClampNeg).toNatClampNeg = i := by rw [nI_clamp (by omega), l2 i (by omega), nI_clamp (by omega)]
    have ef : (oZ Z d i) 5 4 i = Z 5 4 i := oF_ge i (Nat.le_refl i)
    have cc : (Z 5 0 i).toNatClampNeg = c := by rw [c2, nI_clamp (by omega)]
    have skip : ¬ (Z 5 4 i = 111 ∧ Z 4 5 (Z 5 0 i).toNatClampNeg = nI d) → wX6_dropOffers_59 post (wX6_dropOffers_2 post (m + 1)) (nI d) (nI i) (oZ Z d i) := by
      intro q
      have es : oZ Z d (i + 1) = oZ Z d i := by
        unfold oZ
        rw [show oF (Z 5 4) (Z 5 0) (Z 4 5) d (i + 1) = oF (Z 5 4) (Z 5 0) (Z 4 5) d i from if_neg q, show oG (Z 5 4) (Z 5 0) (Z 4 5) (Z 4 4) d (i + 1) = oG (Z 5 4) (Z 5 0) (Z 4 5) (Z 4 4) d i from if_neg q]
      rw [es] at a
      unfold wX6_dropOffers_59
      rw [nI_1]
      exact a
    unfold wX6_dropOffers_2
    refine ⟨fun z => absurd (show nI no ≤ nI i by rw [← no1]; exact z) (nI_ge (a := i) (b := no) (by omega) (by omega)), fun _ => ⟨ok_get (K := oZ Z d i) no1 lc2 (by omega) (by omega), ?_⟩⟩
    show (Z 9 2 (nI i).toNatClampNeg).toNatClampNeg < nO Z ∧ (¬ (oZ Z d i) 5 4 (Z 9 2 (nI i).toNatClampNeg).toNatClampNeg = 111 → wX6_dropOffers_59 post (wX6_dropOffers_2 post (m + 1)) (nI d) (nI i) (oZ Z d i)) ∧ ((oZ Z d i) 5 4 (Z 9 2 (nI i).toNatClampNeg).toNatClampNeg = 111 → (Z 5 0 (Z 9 2 (nI i).toNatClampNeg).toNatClampNeg).toNatClampNeg < nC Z ∧ (¬ Z 4 5 (Z 5 0 (Z 9 2 (nI i).toNatClampNeg).toNatClampNeg).toNatClampNeg = nI d → wX6_dropOffers_59 post (wX6_dropOffers_2 post (m + 1)) (nI d) (nI i) (oZ Z d i)) ∧ (Z 4 5 (Z 5 0 (Z 9 2 (nI i).toNatClampNeg).toNatClampNeg).toNatClampNeg = nI d → (Z 5 0 (Z 9 2 (nI i).toNatClampNeg).toNatClampNeg).toNatClampNeg < nC Z ∧ wX6_dropOffers_59 post (wX6_dropOffers_2 post (m + 1)) (nI d) (nI i) (kr (kr (oZ Z d i) 5 4 (va_up (oF (Z 5 4) (Z 5 0) (Z 4 5) d i) (Z 9 2 (nI i).toNatClampNeg).toNatClampNeg 103)) 4 4 (va_up (oG (Z 5 4) (Z 5 0) (Z 4 5) (Z 4 4) d i) (Z 5 0 (Z 9 2 (nI i).toNatClampNeg).toNatClampNeg).toNatClampNeg 0))))
    rw [e, ef]
    refine ⟨by omega, fun z => skip (fun q => z q.1), fun z => ⟨by omega, fun z2 => skip (fun q => z2 q.2), fun z2 => ⟨by omega, ?_⟩⟩⟩
    have q : Z 5 4 i = 111 ∧ Z 4 5 (Z 5 0 i).toNatClampNeg = nI d := ⟨z, z2⟩
    unfold wX6_dropOffers_59
    rw [nI_1]
    have es : kr (kr (oZ Z d i) 5 4 (va_up (oF (Z 5 4) (Z 5 0) (Z 4 5) d i) i 103)) 4 4 (va_up (oG (Z 5 4) (Z 5 0) (Z 4 5) (Z 4 4) d i) (Z 5 0 i).toNatClampNeg 0) = oZ Z d (i + 1) := by
      unfold oZ
      rw [oZ_step, show oF (Z 5 4) (Z 5 0) (Z 4 5) d (i + 1) = va_up (oF (Z 5 4) (Z 5 0) (Z 4 5) d i) i 103 from if_pos q, show oG (Z 5 4) (Z 5 0) (Z 4 5) (Z 4 4) d (i + 1) = va_up (oG (Z 5 4) (Z 5 0) (Z 4 5) (Z 4 4) d i) (Z 5 0 i).toNatClampNeg 0 from if_pos q]
    rw [es]
    exact a
theorem cl_back {post : Unit → KS → Prop} {K : KS} {mc ms s n nc nd : Nat} {w : Int32} {sk : Nat → Nat} (hD : nD K = nd) (hC : nC K = nc) (hs : s < 2 * nd) (hnc : nc ≤ 40) (h1 : K 8 2 (s + 4) = nI n) (h2 : lcp (K 8 3 (s + 4)) n) (hn : n ≤ 8) (h3 : ∀ i, i < n → K 9 (s + 4) i = nI (sk i) ∧ sk i < nc) (h0 : ∀ c, c < nc → K 4 0 c = nI c) (hw7 : K 7 0 s = w) (hw : w ≠ -1) : ∀ m i st r (y x : LXp) uc us, uc ≤ mc → us ≤ ms → i + m = n → hRf y x → rOK r → 3 * x.1 ≤ r → (hF sk w i m x).1 < 4000 → (3 * (hF sk w i m x).1 ≤ r ∨ (uc + 1 ≤ mc ∧ us + 2 * r ≤ ms ∧ 3 * (hF sk w i m x).1 ≤ 2 * r)) → (∀ r2 y2, rOK r2 → 3 * (hF sk w i m x).1 ≤ r2 → (r2 = r ∨ (r2 = 2 * r ∧ ¬ 3 * (hF sk w i m x).1 ≤ r)) → hRf y2 (hF sk w i m x) → post () (kH (kr K 4 3 (stF sk 115 i m st)) r2 y2)) → wX6_takeCardsBack_2 post mc ms (m + 1) uc us s (nI i) (kH (kr K 4 3 st) r y) := by
  intro m
  induction m with
  | zero =>
    intro i st r y x uc us _ _ hi hyx hr h5 _ _ hp
    unfold wX6_takeCardsBack_2
    exact ⟨by show s < 2 * nD K; omega, fun _ => hp r y hr h5 (Or.inl rfl) hyx, fun z => absurd (by show K 8 2 (s + 4) ≤ nI i; rw [h1]; exact nI_le (by omega) (by omega)) z⟩
  | succ m ih =>
    intro i st r y x uc us hu1 hu2 hi hyx hr h5 hP hb hp
    obtain ⟨a1, a2⟩ := h3 i (by omega)
    have e : (K 9 (s + 4) (nI i).toNatClampNeg).toNatClampNeg = sk i := by rw [nI_clamp (by omega), a1, nI_clamp (by omega)]
    have hge : (hS (sk i) w x).1 ≤ (hF sk w i (m + 1) x).1 := hF_ge m (i + 1) (hS (sk i) w x)
    have hge2 := hS_ge (c := sk i) (w := w) (x := x)
    unfold wX6_takeCardsBack_2
    refine ⟨by show s < 2 * nD K; omega, fun z => absurd (show nI n ≤ nI i by rw [← h1]; exact z) (nI_ge (a := i) (b := n) (by omega) (by omega)), fun _ => ⟨ok_get (K := kH (kr K 4 3 st) r y) h1 h2 (by omega) (by omega), ?_⟩⟩
    show (K 9 (s + 4) (nI i).toNatClampNeg).toNatClampNeg < nC K ∧ ∃ a6 a7, uc + a6 ≤ mc ∧ us + a7 ≤ ms ∧ wpX6_hand (fun _ K8 => wX6_takeCardsBack_2 post mc ms (m + 1) (uc + a6) (us + a7) s (nI i + 1) K8) a6 a7 (k3 (kH (kr K 4 3 st) r y) 4 3 (K 9 (s + 4) (nI i).toNatClampNeg).toNatClampNeg 115) (K 9 (s + 4) (nI i).toNatClampNeg).toNatClampNeg (K 7 0 s)
    rw [e, kH_43, hw7]
    refine ⟨by omega, ?_⟩
    · have ef : hF sk w i (m + 1) x = hF sk w (i + 1) m (hS (sk i) w x) := rfl
      by_cases hq : x.2.2 (sk i) = w ∨ 3 * (x.1 + 1) ≤ r
      · refine ⟨0, 0, by omega, by omega, ?_⟩
        refine hand_ok (nc := nc) hyx hr h5 (by omega) hC (by omega) (h0 _ (by omega)) hw (hq.imp id Or.inl) (fun r2 y2 v1 v2 v3 v4 => ?_)
        have hr2 : r2 = r := by
          rcases v3 with v3 | v3
          · exact v3
          · rcases hq with z | z
            · exact absurd z v3.2.2
            · exact absurd z v3.2.1
        subst hr2
        rw [nI_1]
        exact ih (i + 1) _ r2 y2 (hS (sk i) w x) (uc + 0) (us + 0) (by omega) (by omega) (by omega) v4 v1 v2 hP hb hp
      · have hne : x.2.2 (sk i) ≠ w := fun z => hq (Or.inl z)
        have hgr : ¬ 3 * (x.1 + 1) ≤ r := fun z => hq (Or.inr z)
        have e1 : (hS (sk i) w x).1 = x.1 + 1 := by
          unfold hS
          rw [if_neg (fun z => z.elim hw hne)]
          rfl
        have hb2 : uc + 1 ≤ mc ∧ us + 2 * r ≤ ms ∧ 3 * (hF sk w i (m + 1) x).1 ≤ 2 * r := by
          rcases hb with z | z
          · omega
          · exact z
        refine ⟨1, 2 * r, hb2.1, hb2.2.1, ?_⟩
        refine hand_ok (nc := nc) hyx hr h5 (by omega) hC (by omega) (h0 _ (by omega)) hw (Or.inr (Or.inr ⟨by omega, by omega⟩)) (fun r2 y2 v1 v2 v3 v4 => ?_)
        have hr2 : r2 = 2 * r := by
          rcases v3 with v3 | v3
          · omega
          · exact v3.1
        subst hr2
        rw [nI_1]
        refine ih (i + 1) _ (2 * r) y2 (hS (sk i) w x) (uc + 1) (us + 2 * r) (by omega) (by omega) (by omega) v4 v1 v2 hP (Or.inl hb2.2.2) (fun r3 y3 u1 u2 u3 u4 => hp r3 y3 u1 u2 ?_ u4)
        rcases u3 with u3 | u3
        · exact Or.inr ⟨u3, by omega⟩
        · exact absurd hb2.2.2 u3.2
