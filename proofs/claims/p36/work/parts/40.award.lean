/-! All played; cards that change hands at the end of a duel. -/
theorem cl_all {post : Int32 → Prop} {K : KS} {s n nd : Nat} (hD : nD K = nd) (hs : s < 2 * nd) (h1 : K 8 2 (s + 4) = nI n) (hn : n ≤ 8) (hy : (∀ i, i < n → ¬ K 18 s i = 0) → post 1) (hno : ∀ i, i < n → K 18 s i = 0 → post 0) : ∀ r i, i + r = n → (∀ j, j < i → ¬ K 18 s j = 0) → wX5_hasPlayedAll_2 post (r + 1) s (nI i) K := by
  intro r
  induction r with
  | zero =>
    intro i hi hq
    unfold wX5_hasPlayedAll_2
    exact ⟨by omega, fun _ => hy (fun j hj => hq j (by omega)), fun z => absurd (by rw [h1]; exact nI_le (by omega) (by omega)) z⟩
  | succ r ih =>
    intro i hi hq
    unfold wX5_hasPlayedAll_2
    rw [nI_clamp (by omega), nI_1]
    exact ⟨by omega, fun z => absurd (by rw [← h1]; exact z) (nI_ge (a := i) (b := n) (by omega) (by omega)), fun _ => ⟨fun z => absurd z (nI_ge (a := i) (b := 8) (by omega) (by omega)), fun _ => ⟨vp_in_nI (by omega) (by omega), fun z => ih (i + 1) (by omega) (fun j hj => by
      rcases Nat.lt_or_ge j i with y | y
      · exact hq j y
      · rw [show j = i by omega]
        exact z), fun z => hno i (by omega) z⟩⟩⟩
def hF (sk : Nat → Nat) (w : Int32) : Nat → Nat → LXp → LXp
  | _, 0, x => x
  | i, m + 1, x => hF sk w (i + 1) m (hS (sk i) w x)
theorem hS_ge {c : Nat} {w : Int32} {x : LXp} : x.1 ≤ (hS c w x).1 := by
  unfold hS
  by_cases q : w = -1 ∨ x.2.2 c = w
  · rw [if_pos q]
    exact Nat.le_refl _
  · rw [if_neg q]
    exact Nat.le_succ _
theorem hF_ge {sk : Nat → Nat} {w : Int32} : ∀ m i x, x.1 ≤ (hF sk w i m x).1 := by
  intro m
  induction m with
  | zero => intro i x; exact Nat.le_refl _
  | succ m ih => intro i x; exact Nat.le_trans hS_ge (ih (i + 1) (hS (sk i) w x))
theorem hF_R {n : Nat} {sk : Nat → Nat} {w : Int32} : ∀ m i x y, (∀ j, j < i + m → sk j < n) → hR n x y → hR n (hF sk w i m x) (hF sk w i m y) := by
  intro m
  induction m with
  | zero => intro i x y _ h; exact h
  | succ m ih => intro i x y hs h; exact ih (i + 1) _ _ (fun j hj => hs j (by omega)) (hS_R (hs i (by omega)) h)
theorem hF_L {n : Nat} {sk : Nat → Nat} {w : Int32} (hn : n ≤ 1000) : ∀ m i x, (∀ j, j < i + m → sk j < n) → hL n x → hL n (hF sk w i m x) := by
  intro m
  induction m with
  | zero => intro i x _ h; exact h
  | succ m ih => intro i x hs h; exact ih (i + 1) _ (fun j hj => hs j (by omega)) (hS_L hn (hs i (by omega)) h)
theorem hF_none {sk : Nat → Nat} : ∀ m i x, hF sk (-1) i m x = x := by
  intro m
  induction m with
  | zero => intro i x; rfl
  | succ m ih =>
    intro i x
    show hF sk (-1) (i + 1) m (hS (sk i) (-1) x) = x
    rw [show hS (sk i) (-1) x = x by unfold hS; rw [if_pos (Or.inl rfl)], ih]
theorem hF_in {sk : Nat → Nat} {w : Int32} (hw : w ≠ -1) : ∀ m i x c, (∃ j, i ≤ j ∧ j < i + m ∧ sk j = c) → (hF sk w i m x).2.2 c = w := by
  have keep : ∀ m i (x : LXp) c, x.2.2 c = w → (hF sk w i m x).2.2 c = w := by
    intro m
    induction m with
    | zero => intro i x c h; exact h
    | succ m ih =>
      intro i x c h
      refine ih (i + 1) _ c ?_
      rw [hS_ow]
      by_cases q : c = sk i ∧ w ≠ -1
      · rw [if_pos q]
      · rw [if_neg q]
        exact h
  intro m
  induction m with
  | zero =>
    intro i x c h
    obtain ⟨j, h1, h2, _⟩ := h
    omega
  | succ m ih =>
    intro i x c h
    obtain ⟨j, h1, h2, h3⟩ := h
    show (hF sk w (i + 1) m (hS (sk i) w x)).2.2 c = w
    rcases (by omega : j = i ∨ i + 1 ≤ j) with q | q
    · refine keep m _ _ c ?_
      rw [hS_ow, if_pos ⟨by rw [← h3, q], hw⟩]
    · exact ih _ _ c ⟨j, q, by omega, h3⟩
theorem hF_out {sk : Nat → Nat} {w : Int32} : ∀ m i x c, (∀ j, i ≤ j → j < i + m → sk j ≠ c) → (hF sk w i m x).2.2 c = x.2.2 c := by
  intro m
  induction m with
  | zero => intro i x c _; rfl
  | succ m ih =>
    intro i x c h
    show (hF sk w (i + 1) m (hS (sk i) w x)).2.2 c = _
    rw [ih _ _ c (fun j h1 h2 => h j (by omega) (by omega)), hS_ow, if_neg (fun q => h i (by omega) (by omega) q.1.symm)]
/-- no posting where each card is there already -/
theorem hF_id {sk : Nat → Nat} {w : Int32} : ∀ m i x, (∀ j, i ≤ j → j < i + m → x.2.2 (sk j) = w) → hF sk w i m x = x := by
  intro m
  induction m with
  | zero => intro i x _; rfl
  | succ m ih =>
    intro i x h
    show hF sk w (i + 1) m (hS (sk i) w x) = x
    rw [show hS (sk i) w x = x by unfold hS; rw [if_pos (Or.inr (h i (by omega) (by omega)))]]
    exact ih (i + 1) x (fun j h1 h2 => h j (by omega) (by omega))
theorem hF_le {sk : Nat → Nat} {w : Int32} : ∀ m i x, (hF sk w i m x).1 ≤ x.1 + m := by
  intro m
  induction m with
  | zero => intro i x; exact Nat.le_refl _
  | succ m ih =>
    intro i x
    have := ih (i + 1) (hS (sk i) w x)
    have h2 := hS_le (c := sk i) (w := w) (x := x)
    show (hF sk w (i + 1) m (hS (sk i) w x)).1 ≤ _
    omega
theorem kH_43 {K : KS} {r : Nat} {x : LXp} {st : Nat → Int32} {c : Nat} {v : Int32} : k3 (kH (kr K 4 3 st) r x) 4 3 c v = kH (kr K 4 3 (va_up st c v)) r x := by
  show kr (kH (kr K 4 3 st) r x) 4 3 (va_up st c v) = _
  rw [kH_sw _ (by omega) (by omega) (by omega) (by omega), kr_kr]
theorem mH_138 {M : KS} {x : LXp} {st : Nat → Int32} {c : Nat} {v : Int32} : k3 (mH (kr M 13 8 st) x) 13 8 c v = mH (kr M 13 8 (va_up st c v)) x := by
  show kr (mH (kr M 13 8 st) x) 13 8 (va_up st c v) = _
  rw [mH_sw _ (by omega) (by omega) (by omega), kr_kr]
theorem cl_award {post : Unit → KS → Prop} {K : KS} {mc ms s n nc nd : Nat} {w : Int32} {sk : Nat → Nat} (hD : nD K = nd) (hC : nC K = nc) (hs : s < 2 * nd) (hnc : nc ≤ 40) (h1 : K 8 2 (s + 4) = nI n) (h2 : lcp (K 8 3 (s + 4)) n) (hn : n ≤ 8) (h3 : ∀ i, i < n → K 9 (s + 4) i = nI (sk i) ∧ sk i < nc) (h0 : ∀ c, c < nc → K 4 0 c = nI c) : ∀ m i st r (y x : LXp) uc us, uc ≤ mc → us ≤ ms → i + m = n → hRf y x → rOK r → 3 * x.1 ≤ r → (hF sk w i m x).1 < 4000 → (3 * (hF sk w i m x).1 ≤ r ∨ (uc + 1 ≤ mc ∧ us + 2 * r ≤ ms ∧ 3 * (hF sk w i m x).1 ≤ 2 * r)) → (∀ r2 y2, rOK r2 → 3 * (hF sk w i m x).1 ≤ r2 → (r2 = r ∨ (r2 = 2 * r ∧ ¬ 3 * (hF sk w i m x).1 ≤ r)) → hRf y2 (hF sk w i m x) → post () (kH (kr K 4 3 (stF sk 119 i m st)) r2 y2)) → wX6_awardCards_2 post mc ms (m + 1) uc us s w (nI i) (kH (kr K 4 3 st) r y) := by
  intro m
  induction m with
  | zero =>
    intro i st r y x uc us _ _ hi hyx hr h5 _ _ hp
    unfold wX6_awardCards_2
    exact ⟨by show s < 2 * nD K; omega, fun _ => hp r y hr h5 (Or.inl rfl) hyx, fun z => absurd (by show K 8 2 (s + 4) ≤ nI i; rw [h1]; exact nI_le (by omega) (by omega)) z⟩
  | succ m ih =>
    intro i st r y x uc us hu1 hu2 hi hyx hr h5 hP hb hp
    obtain ⟨a1, a2⟩ := h3 i (by omega)
    have e : (K 9 (s + 4) (nI i).toNatClampNeg).toNatClampNeg = sk i := by rw [nI_clamp (by omega), a1, nI_clamp (by omega)]
    have hge : (hS (sk i) w x).1 ≤ (hF sk w i (m + 1) x).1 := hF_ge m (i + 1) (hS (sk i) w x)
    have hge2 := hS_ge (c := sk i) (w := w) (x := x)
    unfold wX6_awardCards_2
    refine ⟨by show s < 2 * nD K; omega, fun z => absurd (show nI n ≤ nI i by rw [← h1]; exact z) (nI_ge (a := i) (b := n) (by omega) (by omega)), fun _ => ⟨ok_get (K := kH (kr K 4 3 st) r y) h1 h2 (by omega) (by omega), ?_⟩⟩
    show (K 9 (s + 4) (nI i).toNatClampNeg).toNatClampNeg < nC K ∧ (w = -1 → wX6_awardCards_45 post mc ms (wX6_awardCards_2 post mc ms (m + 1)) uc us s w (nI i) (k3 (kH (kr K 4 3 st) r y) 4 3 (K 9 (s + 4) (nI i).toNatClampNeg).toNatClampNeg 119)) ∧ (¬ w = -1 → ∃ a6 a7, uc + a6 ≤ mc ∧ us + a7 ≤ ms ∧ wpX6_hand (fun _ K8 => wX6_awardCards_45 post mc ms (wX6_awardCards_2 post mc ms (m + 1)) (uc + a6) (us + a7) s w (nI i) K8) a6 a7 (k3 (kH (kr K 4 3 st) r y) 4 3 (K 9 (s + 4) (nI i).toNatClampNeg).toNatClampNeg 119) (K 9 (s + 4) (nI i).toNatClampNeg).toNatClampNeg w)
    rw [e, kH_43]
    refine ⟨by omega, fun hw => ?_, fun hw => ?_⟩
    · unfold wX6_awardCards_45
      rw [nI_1]
      have es : hS (sk i) w x = x := by unfold hS; rw [if_pos (Or.inl hw)]
      have ef : hF sk w i (m + 1) x = hF sk w (i + 1) m x := by show hF sk w (i + 1) m (hS (sk i) w x) = _; rw [es]
      rw [ef] at hP hb hp
      exact ih (i + 1) _ r y x uc us hu1 hu2 (by omega) hyx hr h5 hP hb hp
    · have ef : hF sk w i (m + 1) x = hF sk w (i + 1) m (hS (sk i) w x) := rfl
      by_cases hq : x.2.2 (sk i) = w ∨ 3 * (x.1 + 1) ≤ r
      · refine ⟨0, 0, by omega, by omega, ?_⟩
        refine hand_ok (nc := nc) hyx hr h5 (by omega) hC (by omega) (h0 _ (by omega)) hw (hq.imp id Or.inl) (fun r2 y2 v1 v2 v3 v4 => ?_)
        have hr2 : r2 = r := by
          rcases v3 with v3 | v3
          · exact v3
          · rcases hq with z | z
            · exact absurd z v3.2.2
            · exact absurd z v3.2.1
        subst hr2
        unfold wX6_awardCards_45
        rw [nI_1]
        exact ih (i + 1) _ r2 y2 (hS (sk i) w x) (uc + 0) (us + 0) (by omega) (by omega) (by omega) v4 v1 v2 hP hb hp
      · have hne : x.2.2 (sk i) ≠ w := fun z => hq (Or.inl z)
        have hgr : ¬ 3 * (x.1 + 1) ≤ r := fun z => hq (Or.inr z)
        have e1 : (hS (sk i) w x).1 = x.1 + 1 := by
          unfold hS
          rw [if_neg (fun z => z.elim hw hne)]
          rfl
        have hb2 : uc + 1 ≤ mc ∧ us + 2 * r ≤ ms ∧ 3 * (hF sk w i (m + 1) x).1 ≤ 2 * r := by
          rcases hb with z | z
          · omega
          · exact z
        refine ⟨1, 2 * r, hb2.1, hb2.2.1, ?_⟩
        refine hand_ok (nc := nc) hyx hr h5 (by omega) hC (by omega) (h0 _ (by omega)) hw (Or.inr (Or.inr ⟨by omega, by omega⟩)) (fun r2 y2 v1 v2 v3 v4 => ?_)
        have hr2 : r2 = 2 * r := by
          rcases v3 with v3 | v3
          · omega
          · exact v3.1
        subst hr2
        unfold wX6_awardCards_45
        rw [nI_1]
        refine ih (i + 1) _ (2 * r) y2 (hS (sk i) w x) (uc + 1) (us + 2 * r) (by omega) (by omega) (by omega) v4 v1 v2 hP (Or.inl hb2.2.2) (fun r3 y3 u1 u2 u3 u4 => hp r3 y3 u1 u2 ?_ u4)
        rcases u3 with u3 | u3
        · exact Or.inr ⟨u3, by omega⟩
        · exact absurd hb2.2.2 u3.2
