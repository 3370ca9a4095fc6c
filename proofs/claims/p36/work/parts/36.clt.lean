/-! close: tools and loops -/
def stF (sk : Nat → Nat) (v : Int32) : Nat → Nat → (Nat → Int32) → (Nat → Int32)
  | _, 0, f => f
  | i, m + 1, f => stF sk v (i + 1) m (va_up f (sk i) v)
theorem stF_in {sk : Nat → Nat} {v : Int32} : ∀ m i f c, (∃ j, i ≤ j ∧ j < i + m ∧ sk j = c) → stF sk v i m f c = v := by
  have keep : ∀ m i f c, f c = v → stF sk v i m f c = v := by
    intro m
    induction m with
    | zero => intro i f c h; exact h
    | succ m ih =>
      intro i f c h
      show stF sk v (i + 1) m (va_up f (sk i) v) c = v
      refine ih _ _ _ ?_
      rw [up_if]
      by_cases q : c = sk i
      · rw [if_pos q]
      · rw [if_neg q]
        exact h
  intro m
  induction m with
  | zero =>
    intro i f c h
    obtain ⟨j, h1, h2, _⟩ := h
    omega
  | succ m ih =>
    intro i f c h
    obtain ⟨j, h1, h2, h3⟩ := h
    show stF sk v (i + 1) m (va_up f (sk i) v) c = v
    rcases (by omega : j = i ∨ i + 1 ≤ j) with q | q
    · refine keep m _ _ _ ?_
      rw [up_if, if_pos (by rw [← h3, q])]
    · exact ih _ _ _ ⟨j, q, by omega, h3⟩
theorem stF_out {sk : Nat → Nat} {v : Int32} : ∀ m i f c, (∀ j, i ≤ j → j < i + m → sk j ≠ c) → stF sk v i m f c = f c := by
  intro m
  induction m with
  | zero => intro i f c _; rfl
  | succ m ih =>
    intro i f c h
    show stF sk v (i + 1) m (va_up f (sk i) v) c = f c
    rw [ih _ _ _ (fun j h1 h2 => h j (by omega) (by omega)), up_if, if_neg (fun q => h i (by omega) (by omega) q.symm)]
theorem sumI_zero : ∀ n, sumI (fun _ => 0) n = 0 := by
  intro n
  induction n with
  | zero => rfl
  | succ n ih =>
    show sumI (fun _ => 0) n + 0 = 0
    rw [ih]
    rfl
/-- a sum over the sales is the sum over the offers -/
theorem sum_re : ∀ (n m : Nat) (F : Nat → Int32) (sl : Nat → Nat), (∀ j, j < n → sl j < m) → (∀ i j, i < n → j < n → sl i = sl j → i = j) → (∀ k, k < m → (∀ j, j < n → sl j ≠ k) → F k = 0) → sumI (fun j => F (sl j)) n = sumI F m := by
  intro n
  induction n with
  | zero =>
    intro m F sl _ _ h
    show (0 : Int32) = sumI F m
    rw [sumI_cong (g := fun _ => 0) (fun i hi => h i hi (fun j hj => absurd hj (Nat.not_lt_zero j))), sumI_zero]
  | succ n ih =>
    intro m F sl h1 h2 h3
    show sumI (fun j => F (sl j)) n + F (sl n) = sumI F m
    have e := ih m (va_up F (sl n) 0) sl (fun j hj => h1 j (by omega)) (fun i j hi hj => h2 i j (by omega) (by omega)) (fun k hk hq => by
      rw [up_if]
      by_cases c : k = sl n
      · rw [if_pos c]
      · rw [if_neg c]
        refine h3 k hk (fun j hj => ?_)
        rcases (by omega : j < n ∨ j = n) with z | z
        · exact hq j z
        · rw [z]
          exact fun w => c w.symm)
    rw [sumI_up _ (h1 n (by omega))] at e
    rw [sumI_cong (g := fun j => va_up F (sl n) 0 (sl j)) (fun j hj => by
      show F (sl j) = va_up F (sl n) 0 (sl j)
      rw [up_if, if_neg (fun q => by have := h2 j n (by omega) (by omega) q; omega)]), e]
    grind
theorem kr2_43 (K : KS) (f g : Nat → Int32) (c : Nat) (v : Int32) : k3 (kr (kr K 4 3 f) 4 5 g) 4 3 c v = kr (kr K 4 3 (va_up f c v)) 4 5 g := by
  show kr (kr (kr K 4 3 f) 4 5 g) 4 3 (va_up f c v) = _
  rw [kr_sw _ g _ (by omega), kr_kr]
theorem kr2_45 (K : KS) (f g : Nat → Int32) (c : Nat) (v : Int32) : k3 (kr (kr K 4 3 f) 4 5 g) 4 5 c v = kr (kr K 4 3 f) 4 5 (va_up g c v) := by
  show kr (kr (kr K 4 3 f) 4 5 g) 4 5 (va_up g c v) = _
  rw [kr_kr]
theorem cl_free {post : Unit → KS → Prop} {K : KS} {s n nc nd : Nat} {sk : Nat → Nat} (hD : nD K = nd) (hC : nC K = nc) (hs : s < 2 * nd) (hnc : nc ≤ 40) (h1 : K 8 2 (s + 4) = nI n) (h2 : lcp (K 8 3 (s + 4)) n) (hn : n ≤ 8) (h3 : ∀ i, i < n → K 9 (s + 4) i = nI (sk i) ∧ sk i < nc) : ∀ m i f g, i + m = n → post () (kr (kr K 4 3 (stF sk 45 i m f)) 4 5 (stF sk (-1) i m g)) → wX6_freeCards_2 post (m + 1) s (nI i) (kr (kr K 4 3 f) 4 5 g) := by
  intro m
  induction m with
  | zero =>
    intro i f g hi hp
    unfold wX6_freeCards_2
    exact ⟨by show s < 2 * nD K; omega, fun _ => hp, fun z => absurd (by show K 8 2 (s + 4) ≤ nI i; rw [h1]; exact nI_le (by omega) (by omega)) z⟩
  | succ m ih =>
    intro i f g hi hp
    obtain ⟨a1, a2⟩ := h3 i (by omega)
    have e : (K 9 (s + 4) (nI i).toNatClampNeg).toNatClampNeg = sk i := by rw [nI_clamp (by omega), a1, nI_clamp (by omega)]
    unfold wX6_freeCards_2
    refine ⟨by show s < 2 * nD K; omega, fun z => absurd (show nI n ≤ nI i by rw [← h1]; exact z) (nI_ge (a := i) (b := n) (by omega) (by omega)), fun _ => ⟨ok_get (K := kr (kr K 4 3 f) 4 5 g) h1 h2 (by omega) (by omega), ?_⟩⟩
    show (K 9 (s + 4) (nI i).toNatClampNeg).toNatClampNeg < nC K ∧ wX6_freeCards_2 post (m + 1) s (nI i + 1) (k3 (k3 (kr (kr K 4 3 f) 4 5 g) 4 3 (K 9 (s + 4) (nI i).toNatClampNeg).toNatClampNeg 45) 4 5 (K 9 (s + 4) (nI i).toNatClampNeg).toNatClampNeg (-1))
    rw [e, kr2_43, kr2_45, nI_1]
    exact ⟨by omega, ih (i + 1) _ _ (by omega) hp⟩
def fD (k45 : Nat → Int32) (v : Int32) (f : Nat → Int32) (i : Nat) : Nat → Int32 := fun c => if c < i ∧ k45 c = v then 45 else f c
/-- what a duel's waiting sales bring, by offer -/
def fPr (K : KS) (d k : Nat) : Int32 := if K 5 5 k = nI d then K 5 1 k else 0
def fFe (K : KS) (d k : Nat) : Int32 := if K 5 5 k = nI d then (K 5 1 k + 9) / 10 else 0
def fCo (K : KS) (d p k : Nat) : Int32 := if K 5 5 k = nI d ∧ (K 5 2 k).toNatClampNeg = p then K 5 1 k - (K 5 1 k + 9) / 10 else 0
def wF (K : KS) (d : Nat) (sl : Nat → Nat) : Nat → (Nat → Int32)
  | 0 => K 5 5
  | j + 1 => if K 5 5 (sl j) = nI d then va_up (wF K d sl j) (sl j) (-1) else wF K d sl j
def cF (K : KS) (d : Nat) (sl : Nat → Nat) (j : Nat) : Nat → Int32 := fun p => K 10 0 p + sumI (fun i => fCo K d p (sl i)) j
def kP (K : KS) (d : Nat) (sl : Nat → Nat) (j : Nat) : KS := kr (k3 (k3 (kr K 5 5 (wF K d sl j)) 0 4 0 (K 0 4 0 - sumI (fun i => fPr K d (sl i)) j)) 0 3 0 (K 0 3 0 + sumI (fun i => fFe K d (sl i)) j)) 10 0 (cF K d sl j)
theorem wF_same {K : KS} {d : Nat} {sl : Nat → Nat} {k : Nat} : ∀ n, (∀ j, j < n → sl j ≠ k) → wF K d sl n k = K 5 5 k := by
  intro n
  induction n with
  | zero => intro _; rfl
  | succ n ih =>
    intro h
    show (if K 5 5 (sl n) = nI d then va_up (wF K d sl n) (sl n) (-1) else wF K d sl n) k = _
    by_cases q : K 5 5 (sl n) = nI d
    · rw [if_pos q, up_if, if_neg (fun z => h n (by omega) z.symm)]
      exact ih (fun j hj => h j (by omega))
    · rw [if_neg q]
      exact ih (fun j hj => h j (by omega))
theorem wF_not {K : KS} {d : Nat} {sl : Nat → Nat} {k : Nat} (hk : ¬ K 5 5 k = nI d) : ∀ n, wF K d sl n k = K 5 5 k := by
  intro n
  induction n with
  | zero => rfl
  | succ n ih =>
    show (if K 5 5 (sl n) = nI d then va_up (wF K d sl n) (sl n) (-1) else wF K d sl n) k = _
    by_cases q : K 5 5 (sl n) = nI d
    · rw [if_pos q, up_if, if_neg (fun z => hk (by rw [z]; exact q))]
      exact ih
    · rw [if_neg q]
      exact ih
theorem wF_hit {K : KS} {d : Nat} {sl : Nat → Nat} {k : Nat} (hk : K 5 5 k = nI d) : ∀ n, (∃ j, j < n ∧ sl j = k) → wF K d sl n k = -1 := by
  intro n
  induction n with
  | zero =>
    intro h
    obtain ⟨j, h1, _⟩ := h
    omega
  | succ n ih =>
    intro h
    show (if K 5 5 (sl n) = nI d then va_up (wF K d sl n) (sl n) (-1) else wF K d sl n) k = _
    by_cases z : k = sl n
    · rw [if_pos (by rw [← z]; exact hk), up_if, if_pos z]
    · obtain ⟨j, h1, h2⟩ := h
      have hj : ∃ j, j < n ∧ sl j = k := ⟨j, by
        rcases (by omega : j < n ∨ j = n) with w | w
        · exact w
        · rw [w] at h2
          exact absurd h2.symm z, h2⟩
      by_cases q : K 5 5 (sl n) = nI d
      · rw [if_pos q, up_if, if_neg z]
        exact ih hj
      · rw [if_neg q]
        exact ih hj
theorem kP_0 (K : KS) (d : Nat) (sl : Nat → Nat) : kP K d sl 0 = K := by
  have e : cF K d sl 0 = K 10 0 := funext fun p => Int32.add_zero _
  show kr (k3 (k3 (kr K 5 5 (K 5 5)) 0 4 0 (K 0 4 0 - 0)) 0 3 0 (K 0 3 0 + 0)) 10 0 (cF K d sl 0) = K
  rw [kr_id, Int32.sub_zero, k3_id, Int32.add_zero, k3_id, e, kr_id]
theorem cl_pay {post : Unit → KS → Prop} {K : KS} {no ns np d : Nat} {sl : Nat → Nat} (hO : nO K = no) (ns1 : K 8 2 3 = nI ns) (lc3 : lcp (K 8 3 3) ns) (hns : ns ≤ 60) (hnp : np ≤ 6) (hno : no ≤ 60) (h3 : ∀ j, j < ns → K 9 3 j = nI (sl j) ∧ sl j < no) (hin : ∀ i j, i < ns → j < ns → sl i = sl j → i = j) (h4 : ∀ k, k < no → ∃ q, q < np ∧ K 5 2 k = nI q) (hp : post () (kP K d sl ns)) : ∀ r j, j + r = ns → wX6_payOutSales_2 post (r + 1) (nI d) (nI j) (kP K d sl j) := by
  intro r
  induction r with
  | zero =>
    intro j hj
    have : j = ns := by omega
    subst this
    unfold wX6_payOutSales_2
    exact ⟨fun _ => hp, fun z => absurd (by show K 8 2 3 ≤ nI j; rw [ns1]; exact nI_le (by omega) (by omega)) z⟩
  | succ r ih =>
    intro j hj
    obtain ⟨a1, a2⟩ := h3 j (by omega)
    obtain ⟨q, hq, hq2⟩ := h4 (sl j) a2
    have e : (K 9 3 (nI j).toNatClampNeg).toNatClampNeg = sl j := by rw [nI_clamp (by omega), a1, nI_clamp (by omega)]
    have ew : (kP K d sl j) 5 5 (sl j) = K 5 5 (sl j) := wF_same j (fun i hi z => by have := hin i j (by omega) (by omega) z; omega)
    have hpi := ih (j + 1) (by omega)
    unfold wX6_payOutSales_2
    refine ⟨fun z => absurd (show nI ns ≤ nI j by rw [← ns1]; exact z) (nI_ge (a := j) (b := ns) (by omega) (by omega)), fun _ => ⟨ok_get (K := kP K d sl j) ns1 lc3 (by omega) (by omega), ?_⟩⟩
    show (K 9 3 (nI j).toNatClampNeg).toNatClampNeg < nO K ∧ (¬ (kP K d sl j) 5 5 (K 9 3 (nI j).toNatClampNeg).toNatClampNeg = nI d → wX6_payOutSales_56 post (wX6_payOutSales_2 post (r + 1)) (nI d) (nI j) (kP K d sl j)) ∧ ((kP K d sl j) 5 5 (K 9 3 (nI j).toNatClampNeg).toNatClampNeg = nI d → wpX6_paySeller (fun _ K5 => wX6_payOutSales_56 post (wX6_payOutSales_2 post (r + 1)) (nI d) (nI j) K5) (k3 (k3 (kP K d sl j) 5 5 (K 9 3 (nI j).toNatClampNeg).toNatClampNeg (-1)) 0 4 0 ((kP K d sl j) 0 4 0 - K 5 1 (K 9 3 (nI j).toNatClampNeg).toNatClampNeg)) (K 9 3 (nI j).toNatClampNeg).toNatClampNeg)
    rw [e, ew]
    refine ⟨by omega, fun z => ?_, fun z => ?_⟩
    · unfold wX6_payOutSales_56
      rw [nI_1]
      have es : kP K d sl (j + 1) = kP K d sl j := by
        unfold kP
        have e1 : wF K d sl (j + 1) = wF K d sl j := by
          show (if K 5 5 (sl j) = nI d then va_up (wF K d sl j) (sl j) (-1) else wF K d sl j) = _
          rw [if_neg z]
        have e2 : sumI (fun i => fPr K d (sl i)) (j + 1) = sumI (fun i => fPr K d (sl i)) j := by
          show sumI (fun i => fPr K d (sl i)) j + fPr K d (sl j) = _
          unfold fPr
          rw [if_neg z, Int32.add_zero]
        have e3 : sumI (fun i => fFe K d (sl i)) (j + 1) = sumI (fun i => fFe K d (sl i)) j := by
          show sumI (fun i => fFe K d (sl i)) j + fFe K d (sl j) = _
          unfold fFe
          rw [if_neg z, Int32.add_zero]
        have e4 : cF K d sl (j + 1) = cF K d sl j := funext fun p => by
          show K 10 0 p + (sumI (fun i => fCo K d p (sl i)) j + fCo K d p (sl j)) = _
          unfold fCo
          rw [if_neg (fun w => z w.1), Int32.add_zero]
          rfl
        rw [e1, e2, e3, e4]
      rw [es] at hpi
      exact hpi
    · unfold wpX6_paySeller
      refine ⟨by show sl j < nO K; omega, ?_⟩
      show wpX6_addCoins _ (k3 (k3 (k3 (kP K d sl j) 5 5 (sl j) (-1)) 0 4 0 ((kP K d sl j) 0 4 0 - K 5 1 (sl j))) 0 3 0 ((kP K d sl j) 0 3 0 + (K 5 1 (sl j) + 9) / 10)) (K 5 2 (sl j)) (K 5 1 (sl j) - (K 5 1 (sl j) + 9) / 10)
      rw [hq2]
      refine cl_addCoins (by omega) ?_
      unfold wX6_payOutSales_56
      rw [nI_1]
      have es : k3 (k3 (k3 (k3 (kP K d sl j) 5 5 (sl j) (-1)) 0 4 0 ((kP K d sl j) 0 4 0 - K 5 1 (sl j))) 0 3 0 ((kP K d sl j) 0 3 0 + (K 5 1 (sl j) + 9) / 10)) 10 0 q ((k3 (k3 (k3 (kP K d sl j) 5 5 (sl j) (-1)) 0 4 0 ((kP K d sl j) 0 4 0 - K 5 1 (sl j))) 0 3 0 ((kP K d sl j) 0 3 0 + (K 5 1 (sl j) + 9) / 10)) 10 0 q + (K 5 1 (sl j) - (K 5 1 (sl j) + 9) / 10)) = kP K d sl (j + 1) := by
        have e1 : wF K d sl (j + 1) = va_up (wF K d sl j) (sl j) (-1) := by
          show (if K 5 5 (sl j) = nI d then va_up (wF K d sl j) (sl j) (-1) else wF K d sl j) = _
          rw [if_pos z]
        have e2 : K 0 4 0 - sumI (fun i => fPr K d (sl i)) (j + 1) = K 0 4 0 - sumI (fun i => fPr K d (sl i)) j - K 5 1 (sl j) := by
          show K 0 4 0 - (sumI (fun i => fPr K d (sl i)) j + fPr K d (sl j)) = _
          unfold fPr
          rw [if_pos z]
          grind
        have e3 : K 0 3 0 + sumI (fun i => fFe K d (sl i)) (j + 1) = K 0 3 0 + sumI (fun i => fFe K d (sl i)) j + (K 5 1 (sl j) + 9) / 10 := by
          show K 0 3 0 + (sumI (fun i => fFe K d (sl i)) j + fFe K d (sl j)) = _
          unfold fFe
          rw [if_pos z, Int32.add_assoc]
        have e4 : cF K d sl (j + 1) = va_up (cF K d sl j) q (cF K d sl j q + (K 5 1 (sl j) - (K 5 1 (sl j) + 9) / 10)) := funext fun p => by
          show K 10 0 p + (sumI (fun i => fCo K d p (sl i)) j + fCo K d p (sl j)) = _
          rw [up_if]
          unfold fCo
          rw [hq2, nI_clamp (by omega)]
          by_cases w : p = q
          · rw [if_pos w, if_pos ⟨z, w.symm⟩, ← Int32.add_assoc, w]
            rfl
          · rw [if_neg w, if_neg (fun v => w v.2.symm), Int32.add_zero]
            rfl
        have a0 : (kP K d sl j) 0 4 0 = K 0 4 0 - sumI (fun i => fPr K d (sl i)) j := rfl
        have a1_ : (kP K d sl j) 0 3 0 = K 0 3 0 + sumI (fun i => fFe K d (sl i)) j := rfl
        have a2_ : (k3 (k3 (k3 (kP K d sl j) 5 5 (sl j) (-1)) 0 4 0 ((kP K d sl j) 0 4 0 - K 5 1 (sl j))) 0 3 0 ((kP K d sl j) 0 3 0 + (K 5 1 (sl j) + 9) / 10)) 10 0 q = cF K d sl j q := rfl
        rw [a2_, a0, a1_]
        unfold kP
        rw [e1, e2, e3, e4]
        generalize K 0 4 0 - sumI (fun i => fPr K d (sl i)) j = A
        generalize K 0 3 0 + sumI (fun i => fFe K d (sl i)) j = B
        generalize wF K d sl j = W
        generalize cF K d sl j = C
        funext x y z2
        unfold k3 kr va_up
        grind
      have hpi2 := hpi
      rw [← es] at hpi2
      exact hpi2

