/-! Sales undone: the reference's loops. -/
def sE (K : KS) (d : Nat) (sl : Nat → Nat) (f : Nat → Int32) : Nat → (Nat → Int32)
  | 0 => f
  | j + 1 => if K 5 5 (sl j) = nI d then va_up (sE K d sl f j) (sl j) 103 else sE K d sl f j
theorem sE_sF (K : KS) (d : Nat) (sl : Nat → Nat) : ∀ n, sF K d sl n = sE K d sl (K 5 4) n := by
  intro n
  induction n with
  | zero => rfl
  | succ n ih =>
    show (if K 5 5 (sl n) = nI d then va_up (sF K d sl n) (sl n) 103 else sF K d sl n) = (if K 5 5 (sl n) = nI d then va_up (sE K d sl (K 5 4) n) (sl n) 103 else sE K d sl (K 5 4) n)
    rw [ih]
theorem sE_same {K : KS} {d : Nat} {sl : Nat → Nat} {f : Nat → Int32} {k : Nat} : ∀ n, (∀ j, j < n → sl j ≠ k) → sE K d sl f n k = f k := by
  intro n
  induction n with
  | zero => intro _; rfl
  | succ n ih =>
    intro h
    show (if K 5 5 (sl n) = nI d then va_up (sE K d sl f n) (sl n) 103 else sE K d sl f n) k = _
    by_cases q : K 5 5 (sl n) = nI d
    · rw [if_pos q, up_if, if_neg (fun z => h n (by omega) z.symm)]
      exact ih (fun j hj => h j (by omega))
    · rw [if_neg q]
      exact ih (fun j hj => h j (by omega))
theorem sE_not {K : KS} {d : Nat} {sl : Nat → Nat} {f : Nat → Int32} {k : Nat} (hk : ¬ K 5 5 k = nI d) : ∀ n, sE K d sl f n k = f k := by
  intro n
  induction n with
  | zero => rfl
  | succ n ih =>
    show (if K 5 5 (sl n) = nI d then va_up (sE K d sl f n) (sl n) 103 else sE K d sl f n) k = _
    by_cases q : K 5 5 (sl n) = nI d
    · rw [if_pos q, up_if, if_neg (fun z => hk (by rw [z]; exact q))]
      exact ih
    · rw [if_neg q]
      exact ih
theorem sE_hit {K : KS} {d : Nat} {sl : Nat → Nat} {f : Nat → Int32} {k : Nat} (hk : K 5 5 k = nI d) : ∀ n, (∃ j, j < n ∧ sl j = k) → sE K d sl f n k = 103 := by
  intro n
  induction n with
  | zero =>
    intro h
    obtain ⟨j, h1, _⟩ := h
    omega
  | succ n ih =>
    intro h
    show (if K 5 5 (sl n) = nI d then va_up (sE K d sl f n) (sl n) 103 else sE K d sl f n) k = _
    by_cases z : k = sl n
    · rw [if_pos (by rw [← z]; exact hk), up_if, if_pos z]
    · obtain ⟨j, h1, h2⟩ := h
      have hj : ∃ j, j < n ∧ sl j = k := ⟨j, by
        rcases (by omega : j < n ∨ j = n) with w | w
        · exact w
        · rw [w] at h2
          exact absurd h2.symm z, h2⟩
      by_cases q : K 5 5 (sl n) = nI d
      · rw [if_pos q, up_if, if_neg z]
        exact ih hj
      · rw [if_neg q]
        exact ih hj
def cR (M K : KS) (d : Nat) (sl : Nat → Nat) (j : Nat) : Nat → Int32 := fun p => M 16 2 p + sumI (fun i => fBu K d p (sl i)) j
def mV (M K : KS) (d : Nat) (sl : Nat → Nat) (j : Nat) : KS := kr (kr M 13 32 (sE K d sl (M 13 32) j)) 16 2 (cR M K d sl j)
theorem uN_mono (K : KS) (d : Nat) (sl : Nat → Nat) (i : Nat) : ∀ m, uN K d sl i ≤ uN K d sl (i + m) := by
  intro m
  induction m with
  | zero => exact Nat.le_refl _
  | succ m ih => exact Nat.le_trans ih (Nat.le_add_right _ _)
theorem fsum2 {K : KS} {d no : Nat} {sl : Nat → Nat} (h : ∀ k, k < no → ∃ x, x ≤ 999 ∧ K 5 1 k = nI x) (hno : no ≤ 60) : ∀ i, i ≤ 60 → (∀ j, j < i → sl j < no) → 0 ≤ (sumI (fun i => fPr K d (sl i)) i).toInt ∧ (sumI (fun i => fPr K d (sl i)) i).toInt ≤ 999 * (i : Int) := by
  intro i
  induction i with
  | zero =>
    intro _ _
    show 0 ≤ (0 : Int32).toInt ∧ (0 : Int32).toInt ≤ 999 * ((0 : Nat) : Int)
    decide
  | succ i ih =>
    intro hi hsl
    obtain ⟨a, b⟩ := ih (by omega) (fun j hj => hsl j (by omega))
    show 0 ≤ (sumI (fun i => fPr K d (sl i)) i + fPr K d (sl i)).toInt ∧ (sumI (fun i => fPr K d (sl i)) i + fPr K d (sl i)).toInt ≤ _
    obtain ⟨x, hx, hx2⟩ := h (sl i) (hsl i (by omega))
    have hf : ∃ y : Nat, y ≤ 999 ∧ (fPr K d (sl i)).toInt = (y : Int) := by
      unfold fPr
      by_cases q : K 5 5 (sl i) = nI d
      · rw [if_pos q]
        exact ⟨x, hx, by rw [hx2]; exact nI_toInt (by omega)⟩
      · rw [if_neg q]
        exact ⟨0, by omega, rfl⟩
    obtain ⟨y, hy, hy2⟩ := hf
    rw [add_small rfl hy2 (by omega) (by omega)]
    omega
def fI (N : KS) (d t j : Nat) (l3 : Int32) : Prop := (l3 = -1 ∧ ∀ k, k < j → ¬ (N 13 32 k = 98 ∧ N 16 35 k = nI d)) ∨ ∃ b, b < j ∧ l3 = nI b ∧ (N 13 32 b = 98 ∧ N 16 35 b = nI d) ∧ (t < j → b = t)
theorem ml_find {post : Int32 → KS → Int64 → Prop} {bk4 : Int32 → Int32 → KS → Int64 → Prop} {N : KS} {ap : Int64} {no d t : Nat} {l2 : Int32} (hn : N 3 29 0 = nI no) (hno : no ≤ 60) (ht : t < no → N 13 32 t = 98 ∧ N 16 35 t = nI d) (hmax : ∀ k, k < no → (N 13 32 k = 98 ∧ N 16 35 k = nI d) → k ≠ t → t < no → ¬ N 16 36 t ≤ N 16 36 k ∧ N 16 36 k ≤ N 16 36 t) (hE : ∀ l3, fI N d t no l3 → wX7_undoes_9 post bk4 1 (nI d) l2 l3 (nI no) N ap) : ∀ r j l3, j + r = no → fI N d t j l3 → wX7_undoes_9 post bk4 (r + 1) (nI d) l2 l3 (nI j) N ap := by
  intro r
  induction r with
  | zero =>
    intro j l3 hj h
    have hj2 : j = no := by omega
    subst hj2
    exact hE l3 h
  | succ r ih =>
    intro j l3 hj h
    have skip : (¬ (N 13 32 j = 98 ∧ N 16 35 j = nI d)) → wX7_undoes_45 post bk4 (wX7_undoes_9 post bk4 (r + 1)) (nI d) l2 l3 (nI j) N ap := by
      intro q
      unfold wX7_undoes_45 wX7_undoes_46
      refine ⟨fun _ => ?_, fun z => absurd rfl z⟩
      unfold wX7_undoes_79 wX7_undoes_80
      rw [nI_1]
      refine ih (j + 1) l3 (by omega) ?_
      rcases h with ⟨h1, h2⟩ | ⟨b, h1, h2, h3, h4⟩
      · refine Or.inl ⟨h1, fun k hk => ?_⟩
        rcases (by omega : k < j ∨ k = j) with y | y
        · exact h2 k y
        · rw [y]
          exact q
      · refine Or.inr ⟨b, by omega, h2, h3, fun y => ?_⟩
        rcases (by omega : t < j ∨ t = j) with w | w
        · exact h4 w
        · rw [← w] at q
          exact absurd (ht (by omega)) q
    unfold wX7_undoes_9
    rw [hn, nI_clamp (n := j) (by omega)]
    refine ⟨fun z => absurd z (nI_ge (a := j) (b := no) (by omega) (by omega)), fun _ => ⟨vp_in_nI (by omega) (by omega), fun z => skip (fun w => z w.1), fun z => ⟨vp_in_nI (by omega) (by omega), fun z2 => skip (fun w => z2 w.2), fun z2 => ?_⟩⟩⟩
    have take : (t < j → False) → wX7_undoes_74 post bk4 (wX7_undoes_9 post bk4 (r + 1)) (nI d) l2 (nI j) N ap := by
      intro w
      unfold wX7_undoes_74 wX7_undoes_80
      rw [nI_1]
      exact ih (j + 1) (nI j) (by omega) (Or.inr ⟨j, by omega, rfl, ⟨z, z2⟩, fun y => by
        rcases (by omega : t < j ∨ t = j) with v | v
        · exact (w v).elim
        · exact v.symm⟩)
    unfold wX7_undoes_46
    refine ⟨fun y => absurd y (by decide), fun _ => ⟨fun y => ?_, fun y => ?_⟩⟩
    · refine take (fun w => ?_)
      rcases h with ⟨h1, h2⟩ | ⟨b, h1, h2, h3, h4⟩
      · exact h2 t w (ht (by omega))
      · rw [h2] at y
        exact absurd y (nI_neg1 (by omega))
    · rcases h with ⟨h1, h2⟩ | ⟨b, h1, h2, h3, h4⟩
      · exact absurd h1 y
      · rw [h2, nI_clamp (n := j) (by omega), nI_clamp (n := b) (by omega)]
        refine ⟨vp_in_nI (by omega) (by omega), vp_in_nI (by omega) (by omega), fun v => ?_, fun v => take (fun w => ?_)⟩
        · unfold wX7_undoes_79 wX7_undoes_80
          rw [nI_1]
          refine ih (j + 1) (nI b) (by omega) (Or.inr ⟨b, by omega, rfl, h3, fun u => ?_⟩)
          rcases (by omega : t < j ∨ t = j) with w | w
          · exact h4 w
          · refine Classical.byContradiction (fun x => ?_)
            have m1 := (hmax b (by omega) h3 x (by omega)).1
            rw [w] at m1
            exact m1 v
        · have e := h4 w
          have m1 := (hmax j (by omega) ⟨z, z2⟩ (by omega) (by omega)).2
          rw [← e] at m1
          exact v m1
theorem mV_skip {M K : KS} {d j : Nat} {sl : Nat → Nat} (h : ¬ K 5 5 (sl j) = nI d) : mV M K d sl (j + 1) = mV M K d sl j := by
  have e2 : sE K d sl (M 13 32) (j + 1) = sE K d sl (M 13 32) j := by
    show (if K 5 5 (sl j) = nI d then va_up (sE K d sl (M 13 32) j) (sl j) 103 else sE K d sl (M 13 32) j) = _
    rw [if_neg h]
  have e4 : cR M K d sl (j + 1) = cR M K d sl j := by
    funext p
    show M 16 2 p + (sumI (fun i => fBu K d p (sl i)) j + fBu K d p (sl j)) = _
    rw [show fBu K d p (sl j) = 0 by unfold fBu; rw [if_neg (fun w => h w.1)], Int32.add_zero]
    rfl
  unfold mV
  rw [e2, e4]
theorem mV_step {M K : KS} {d q j : Nat} {sl : Nat → Nat} {x : LX} (h : K 5 5 (sl j) = nI d) (hb : K 5 3 (sl j) = nI q) (hq : q < 6) : k3 (k3 (mH (mV M K d sl j) x) 13 32 (sl j) 103) 16 2 q (cR M K d sl j q + K 5 1 (sl j)) = mH (mV M K d sl (j + 1)) x := by
  show kr (kr (mH (mV M K d sl j) x) 13 32 (va_up (sE K d sl (M 13 32) j) (sl j) 103)) 16 2 (va_up (cR M K d sl j) q (cR M K d sl j q + K 5 1 (sl j))) = _
  rw [mH_sw _ (by omega) (by omega) (by omega), mH_sw _ (by omega) (by omega) (by omega)]
  congr 1
  have e2 : sE K d sl (M 13 32) (j + 1) = va_up (sE K d sl (M 13 32) j) (sl j) 103 := by
    show (if K 5 5 (sl j) = nI d then va_up (sE K d sl (M 13 32) j) (sl j) 103 else sE K d sl (M 13 32) j) = _
    rw [if_pos h]
  have e4 : cR M K d sl (j + 1) = va_up (cR M K d sl j) q (cR M K d sl j q + K 5 1 (sl j)) := by
    funext p
    show M 16 2 p + (sumI (fun i => fBu K d p (sl i)) j + fBu K d p (sl j)) = _
    rw [up_if]
    unfold fBu
    rw [hb, nI_clamp (by omega)]
    by_cases w : p = q
    · rw [if_pos w, if_pos ⟨h, w.symm⟩, ← Int32.add_assoc, w]
      rfl
    · rw [if_neg w, if_neg (fun v => w v.2.symm), Int32.add_zero]
      rfl
  unfold mV
  rw [e2, e4, kr_sw _ (cR M K d sl j) _ (by omega), kr_kr, kr_kr]
theorem ml_undo {post : Int32 → KS → Int64 → Prop} {M K : KS} {no ns np nc d : Nat} {A : Int32} {sl : Nat → Nat} {X : LX} (hM : M 3 29 0 = nI no) (hno : no ≤ 60) (hns : ns ≤ 60) (hnp : np ≤ 6) (hnc : nc ≤ 40) (hsl : ∀ j, j < ns → sl j < no ∧ M 16 36 (sl j) = nI (ns - 1 - j)) (hq : ∀ k, k < no → ((M 13 32 k = 98 ∧ M 16 35 k = nI d) ↔ K 5 5 k = nI d)) (hsup : ∀ k, k < no → K 5 5 k = nI d → ∃ j, j < ns ∧ sl j = k) (h31 : ∀ k, k < no → M 16 31 k = K 5 1 k ∧ ∃ x, x ≤ 999 ∧ K 5 1 k = nI x) (h34 : ∀ k, k < no → K 5 5 k = nI d → M 16 34 k = K 5 3 k ∧ K 5 3 k ≠ K 5 2 k ∧ ∃ q, q < np ∧ K 5 3 k = nI q) (h30 : ∀ k, k < no → ∃ c, c < nc ∧ K 5 0 k = nI c ∧ M 16 30 k = nI c) (h33 : ∀ k, k < no → M 16 33 k = K 5 2 k ∧ ∃ q, q < np ∧ K 5 2 k = nI q) (hch : ∀ i, i < ns → K 5 5 (sl i) = nI d → (uX K d sl X i).2.2 (K 5 0 (sl i)).toNatClampNeg = K 5 3 (sl i)) (hA : -100000000 ≤ A.toInt ∧ A.toInt ≤ 100000000) (hP : (uX K d sl X ns).1 < 4000) (hp : post (nI (uN K d sl ns)) (mH (mV M K d sl ns) (uX K d sl X ns)) (A - sumI (fun i => fPr K d (sl i)) ns).toInt64) : ∀ m i, i + m = ns → wX7_undoes_4 post (uN K d sl ns - uN K d sl i + 1) (nI d) (nI (uN K d sl i)) (mH (mV M K d sl i) (uX K d sl X i)) (A - sumI (fun i => fPr K d (sl i)) i).toInt64 := by
  have hin : ∀ i j, i < ns → j < ns → sl i = sl j → i = j := fun i j hi hj q => by
    have w1 := (hsl i hi).2
    have w2 := (hsl j hj).2
    rw [q] at w1
    have := (nI_eq (by omega) (by omega)).mp (w1.symm.trans w2)
    omega
  have hC : ∀ i, i ≤ ns → ∀ k, k < no → ((sE K d sl (M 13 32) i k = 98 ∧ M 16 35 k = nI d) ↔ (K 5 5 k = nI d ∧ ∀ j, j < i → sl j ≠ k)) := by
    intro i hi k hk
    constructor
    · intro w
      by_cases z : K 5 5 k = nI d
      · refine ⟨z, fun j hj e => ?_⟩
        have w1 := w.1
        rw [sE_hit z i ⟨j, hj, e⟩] at w1
        exact absurd w1 (by decide)
      · have w1 := w.1
        rw [sE_not z i] at w1
        exact absurd ((hq k hk).mp ⟨w1, w.2⟩) z
    · intro w
      rw [sE_same i w.2]
      exact (hq k hk).mpr w.1
  intro m
  induction m with
  | zero =>
    intro i hi
    have hi2 : i = ns := by omega
    subst hi2
    unfold wX7_undoes_4
    have none : ∀ k, k < no → ¬ ((mH (mV M K d sl i) (uX K d sl X i)) 13 32 k = 98 ∧ (mH (mV M K d sl i) (uX K d sl X i)) 16 35 k = nI d) := by
      intro k hk w
      have w2 := (hC i (Nat.le_refl i) k hk).mp w
      obtain ⟨j, j1, j2⟩ := hsup k hk w2.1
      exact w2.2 j j1 j2
    refine ⟨no + 1, ml_find (N := mH (mV M K d sl i) (uX K d sl X i)) (d := d) (t := no) (no := no) hM hno (fun z => absurd z (Nat.lt_irrefl no)) (fun k hk w => absurd w (none k hk)) (fun l3 hl => ?_) no 0 (-1) (by omega) (Or.inl ⟨rfl, fun k hk => absurd hk (Nat.not_lt_zero k)⟩)⟩
    rcases hl with ⟨h1, _⟩ | ⟨b, h1, _, h3, _⟩
    · rw [h1]
      unfold wX7_undoes_9
      refine ⟨fun _ => ⟨fun _ => ?_, fun z => absurd rfl z⟩, fun z => absurd (by show M 3 29 0 ≤ nI no; rw [hM]; exact nI_le (by omega) (by omega)) z⟩
      unfold wX7_undoes_161
      exact ⟨fun z => absurd rfl z, fun _ => hp⟩
    · exact absurd h3 (none b h1)
  | succ m ih =>
    intro i hi
    have hi2 := ih (i + 1) (by omega)
    obtain ⟨s1, s2⟩ := hsl i (by omega)
    by_cases z : K 5 5 (sl i) = nI d
    · obtain ⟨b1, b2, q, b3, b4⟩ := h34 (sl i) s1 z
      obtain ⟨c, c1, c2, c3⟩ := h30 (sl i) s1
      obtain ⟨f1, p, f2, f3⟩ := h33 (sl i) s1
      obtain ⟨g1, x, g2, g3⟩ := h31 (sl i) s1
      have hown := hch i (by omega) z
      rw [c2, nI_clamp (by omega)] at hown
      have un1 : uN K d sl (i + 1) = uN K d sl i + 1 := by
        show uN K d sl i + (if K 5 5 (sl i) = nI d then 1 else 0) = _
        rw [if_pos z]
      have um := uN_mono K d sl (i + 1) m
      rw [show i + 1 + m = ns by omega] at um
      have fu : uN K d sl ns - uN K d sl i + 1 = (uN K d sl ns - uN K d sl (i + 1) + 1) + 1 := by omega
      rw [fu]
      unfold wX7_undoes_4
      have hCi := (hC i (by omega) (sl i) s1).mpr ⟨z, fun j hj e => by have := hin j i (by omega) (by omega) e; omega⟩
      refine ⟨no + 1, ml_find (N := mH (mV M K d sl i) (uX K d sl X i)) (d := d) (t := sl i) (no := no) hM hno (fun _ => hCi) (fun k hk w hne _ => ?_) (fun l3 hl => ?_) no 0 (-1) (by omega) (Or.inl ⟨rfl, fun k hk => absurd hk (Nat.not_lt_zero k)⟩)⟩
      · have w2 := (hC i (by omega) k hk).mp w
        obtain ⟨j, j1, j2⟩ := hsup k hk w2.1
        have hji : i < j := by
          rcases Nat.lt_trichotomy j i with y | y | y
          · exact absurd j2 (w2.2 j y)
          · rw [y] at j2
            exact absurd j2.symm hne
          · exact y
        have e1 : (mH (mV M K d sl i) (uX K d sl X i)) 16 36 (sl i) = nI (ns - 1 - i) := s2
        have e2 : (mH (mV M K d sl i) (uX K d sl X i)) 16 36 k = nI (ns - 1 - j) := by
          rw [← j2]
          exact (hsl j j1).2
        rw [e1, e2]
        exact ⟨nI_ge (by omega) (by omega), nI_le (by omega) (by omega)⟩
      · have hl3 : l3 = nI (sl i) := by
          rcases hl with ⟨_, h2⟩ | ⟨b, h1, h2, h3, h4⟩
          · exact absurd hCi (h2 (sl i) s1)
          · rw [h2, h4 s1]
        rw [hl3]
        unfold wX7_undoes_9
        refine ⟨fun _ => ⟨fun y => absurd y (nI_neg1 (by omega)), fun y => ?_⟩, fun y => absurd (by show M 3 29 0 ≤ nI no; rw [hM]; exact nI_le (by omega) (by omega)) y⟩
        rw [nI_clamp (n := sl i) (by omega)]
        have e34 : (k3 (mH (mV M K d sl i) (uX K d sl X i)) 13 32 (sl i) 103) 16 34 (sl i) = nI q := b1.trans b4
        have e31 : (k3 (mH (mV M K d sl i) (uX K d sl X i)) 13 32 (sl i) 103) 16 31 (sl i) = K 5 1 (sl i) := g1
        have e2 : (k3 (mH (mV M K d sl i) (uX K d sl X i)) 13 32 (sl i) 103) 16 2 q = cR M K d sl i q := rfl
        rw [e34, e31, nI_clamp (n := q) (by omega), e2, mV_step z b4 (by omega)]
        have e30' : (mH (mV M K d sl (i + 1)) (uX K d sl X i)) 16 30 (sl i) = nI c := c3
        have e34' : (mH (mV M K d sl (i + 1)) (uX K d sl X i)) 16 34 (sl i) = nI q := b1.trans b4
        have e33' : (mH (mV M K d sl (i + 1)) (uX K d sl X i)) 16 33 (sl i) = nI p := f1.trans f3
        rw [e30', e34', e33']
        refine ⟨vp_in_nI (by omega) (by omega), vp_in_nI (by omega) (by omega), vp_in_nI (by omega) (by omega), vp_in_nI (by omega) (by omega), vp_in_nI (by omega) (by omega), vp_in_nI (by omega) (by omega), ?_⟩
        have es : uX K d sl X (i + 1) = hE c (nI q) (nI p) (uX K d sl X i) := by
          show (if K 5 5 (sl i) = nI d then hS (K 5 0 (sl i)).toNatClampNeg (K 5 2 (sl i)) (uX K d sl X i) else uX K d sl X i) = _
          rw [if_pos z, c2, f3, nI_clamp (by omega)]
          unfold hS
          rw [if_neg (fun w => w.elim (nI_neg1 (by omega)) (fun v => b2 (by rw [f3, ← v, hown]))), hown, b4]
        have hge := uX_ge K d sl X (i + 1) m
        rw [show i + 1 + m = ns by omega, es] at hge
        have e1 : (hE c (nI q) (nI p) (uX K d sl X i)).1 = (uX K d sl X i).1 + 1 := rfl
        refine mp_ok (by omega) (by omega) ?_
        unfold wX7_undoes_161
        refine ⟨fun _ => ?_, fun w => absurd w (nI_neg1 (by omega))⟩
        have hfs := fsum2 (d := d) (sl := sl) (fun k hk => (h31 k hk).2) hno i (by omega) (fun j hj => (hsl j (by omega)).1)
        have hAs := sub_small (a := A) (b := sumI (fun i => fPr K d (sl i)) i) rfl rfl (by omega) (by omega)
        have hxi : (K 5 1 (sl i)).toInt = (x : Int) := by rw [g3]; exact nI_toInt (by omega)
        have eap : (A - sumI (fun i => fPr K d (sl i)) i).toInt64 - (K 5 1 (sl i)).toInt64 = (A - sumI (fun i => fPr K d (sl i)) (i + 1)).toInt64 := by
          show _ = (A - (sumI (fun i => fPr K d (sl i)) i + fPr K d (sl i))).toInt64
          rw [show fPr K d (sl i) = K 5 1 (sl i) by unfold fPr; rw [if_pos z], show A - (sumI (fun i => fPr K d (sl i)) i + K 5 1 (sl i)) = A - sumI (fun i => fPr K d (sl i)) i - K 5 1 (sl i) by grind]
          exact (sub_64 hAs hxi (by omega) (by omega)).symm
        rw [eap, ← es, nI_1 (a := uN K d sl i), ← un1]
        exact hi2
    · have es : uX K d sl X (i + 1) = uX K d sl X i := by
        show (if K 5 5 (sl i) = nI d then hS (K 5 0 (sl i)).toNatClampNeg (K 5 2 (sl i)) (uX K d sl X i) else uX K d sl X i) = _
        rw [if_neg z]
      have un1 : uN K d sl (i + 1) = uN K d sl i := by
        show uN K d sl i + (if K 5 5 (sl i) = nI d then 1 else 0) = _
        rw [if_neg z, Nat.add_zero]
      have ep : sumI (fun i => fPr K d (sl i)) (i + 1) = sumI (fun i => fPr K d (sl i)) i := by
        show sumI (fun i => fPr K d (sl i)) i + fPr K d (sl i) = _
        rw [show fPr K d (sl i) = 0 by unfold fPr; rw [if_neg z], Int32.add_zero]
      rw [es, un1, ep, mV_skip z] at hi2
      exact hi2
