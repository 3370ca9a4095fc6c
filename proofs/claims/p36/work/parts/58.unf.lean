/-! What undoing does: the chain of owners, the ledger on both sides. -/
theorem uX_ch {K : KS} {d ns no : Nat} {sl : Nat → Nat} {x : LXp} {B : (Nat → Int32) → Prop} (hsl : ∀ j, j < ns → sl j < no) (hne : ∀ k, k < no → K 5 5 k = nI d → K 5 3 k ≠ K 5 2 k ∧ K 5 2 k ≠ -1) : ∀ m i, i + m = ns → ChOk (K 5 5) (K 5 0) (K 5 3) (K 5 2) sl d B m (uX K d (fun j => sl (ns - 1 - j)) x i).2.2 → (∀ j, i ≤ j → j < ns → K 5 5 (sl (ns - 1 - j)) = nI d → (uX K d (fun j => sl (ns - 1 - j)) x j).2.2 (K 5 0 (sl (ns - 1 - j))).toNatClampNeg = K 5 3 (sl (ns - 1 - j))) ∧ B (uX K d (fun j => sl (ns - 1 - j)) x ns).2.2 := by
  intro m
  induction m with
  | zero =>
    intro i hi h
    have hi2 : i = ns := by omega
    subst hi2
    exact ⟨fun j h1 h2 => by omega, h⟩
  | succ m ih =>
    intro i hi h
    have es : ns - 1 - i = m := by omega
    obtain ⟨h1, h2⟩ := h
    by_cases z : K 5 5 (sl m) = nI d
    · obtain ⟨h3, h4⟩ := h1 z
      obtain ⟨n1_, n2_⟩ := hne (sl m) (hsl m (by omega)) z
      have e : (uX K d (fun j => sl (ns - 1 - j)) x (i + 1)).2.2 = va_up (uX K d (fun j => sl (ns - 1 - j)) x i).2.2 (K 5 0 (sl m)).toNatClampNeg (K 5 2 (sl m)) := by
        show (if K 5 5 (sl (ns - 1 - i)) = nI d then hS (K 5 0 (sl (ns - 1 - i))).toNatClampNeg (K 5 2 (sl (ns - 1 - i))) (uX K d (fun j => sl (ns - 1 - j)) x i) else uX K d (fun j => sl (ns - 1 - j)) x i).2.2 = _
        rw [es, if_pos z]
        unfold hS
        rw [if_neg (fun w => w.elim n2_ (fun v => n1_ (h3.symm.trans v)))]
        rfl
      rw [← e] at h4
      obtain ⟨r1, r2⟩ := ih (i + 1) (by omega) h4
      refine ⟨fun j j1 j2 q => ?_, r2⟩
      rcases (by omega : j = i ∨ i + 1 ≤ j) with y | y
      · rw [y, es]
        exact h3
      · exact r1 j y j2 q
    · have e : uX K d (fun j => sl (ns - 1 - j)) x (i + 1) = uX K d (fun j => sl (ns - 1 - j)) x i := by
        show (if K 5 5 (sl (ns - 1 - i)) = nI d then hS (K 5 0 (sl (ns - 1 - i))).toNatClampNeg (K 5 2 (sl (ns - 1 - i))) (uX K d (fun j => sl (ns - 1 - j)) x i) else uX K d (fun j => sl (ns - 1 - j)) x i) = _
        rw [es, if_neg z]
      have h4 := h2 z
      rw [← e] at h4
      obtain ⟨r1, r2⟩ := ih (i + 1) (by omega) h4
      refine ⟨fun j j1 j2 q => ?_, r2⟩
      rcases (by omega : j = i ∨ i + 1 ≤ j) with y | y
      · rw [y, es] at q
        exact absurd q z
      · exact r1 j y j2 q
theorem uX_R {K : KS} {d n ns : Nat} {sl : Nat → Nat} {x y : LXp} (hc : ∀ j, j < ns → (K 5 0 (sl j)).toNatClampNeg < n) (h : hR n x y) : ∀ j, j ≤ ns → hR n (uX K d sl x j) (uX K d sl y j) := by
  intro j
  induction j with
  | zero => intro _; exact h
  | succ j ih =>
    intro hj
    show hR n (if K 5 5 (sl j) = nI d then hS (K 5 0 (sl j)).toNatClampNeg (K 5 2 (sl j)) (uX K d sl x j) else uX K d sl x j) (if K 5 5 (sl j) = nI d then hS (K 5 0 (sl j)).toNatClampNeg (K 5 2 (sl j)) (uX K d sl y j) else uX K d sl y j)
    by_cases q : K 5 5 (sl j) = nI d
    · rw [if_pos q, if_pos q]
      exact hS_R (hc j (by omega)) (ih (by omega))
    · rw [if_neg q, if_neg q]
      exact ih (by omega)
theorem uX_L {K : KS} {d n ns : Nat} {sl : Nat → Nat} {x : LXp} (hn : n ≤ 1000) (hc : ∀ j, j < ns → (K 5 0 (sl j)).toNatClampNeg < n) (h : hL n x) : ∀ j, j ≤ ns → hL n (uX K d sl x j) := by
  intro j
  induction j with
  | zero => intro _; exact h
  | succ j ih =>
    intro hj
    show hL n (if K 5 5 (sl j) = nI d then hS (K 5 0 (sl j)).toNatClampNeg (K 5 2 (sl j)) (uX K d sl x j) else uX K d sl x j)
    by_cases q : K 5 5 (sl j) = nI d
    · rw [if_pos q]
      exact hS_L hn (hc j (by omega)) (ih (by omega))
    · rw [if_neg q]
      exact ih (by omega)
theorem uX_out {K : KS} {d c ns : Nat} {sl : Nat → Nat} {x : LXp} (hc : ∀ j, j < ns → K 5 5 (sl j) = nI d → (K 5 0 (sl j)).toNatClampNeg ≠ c) : ∀ j, j ≤ ns → (uX K d sl x j).2.2 c = x.2.2 c := by
  intro j
  induction j with
  | zero => intro _; rfl
  | succ j ih =>
    intro hj
    show (if K 5 5 (sl j) = nI d then hS (K 5 0 (sl j)).toNatClampNeg (K 5 2 (sl j)) (uX K d sl x j) else uX K d sl x j).2.2 c = _
    by_cases q : K 5 5 (sl j) = nI d
    · rw [if_pos q, hS_ow, if_neg (fun z => hc j (by omega) q z.1.symm)]
      exact ih (by omega)
    · rw [if_neg q]
      exact ih (by omega)
theorem qF_keep {sk : Nat → Nat} {k : Nat} : ∀ m i p, p.1 k = 103 → (qF sk i m p).1 k = 103 := by
  intro m
  induction m with
  | zero => intro i p h; exact h
  | succ m ih =>
    intro i p h
    refine ih (i + 1) (qS (sk i) p) ?_
    unfold qS
    by_cases q : p.2 (sk i) = -1
    · rw [if_pos q]
      exact h
    · rw [if_neg q]
      show va_up p.1 (p.2 (sk i)).toNatClampNeg 103 k = 103
      rw [up_if]
      by_cases z : k = (p.2 (sk i)).toNatClampNeg
      · rw [if_pos z]
      · rw [if_neg z]
        exact h
theorem qF_in1 {sk : Nat → Nat} {k : Nat} (hk : k < 60) : ∀ m i p, (∃ j, i ≤ j ∧ j < i + m ∧ p.2 (sk j) = nI k) → (qF sk i m p).1 k = 103 := by
  intro m
  induction m with
  | zero =>
    intro i p h
    obtain ⟨j, h1, h2, _⟩ := h
    omega
  | succ m ih =>
    intro i p h
    obtain ⟨j, h1, h2, h3⟩ := h
    show (qF sk (i + 1) m (qS (sk i) p)).1 k = 103
    by_cases z : sk j = sk i
    · refine qF_keep m (i + 1) _ ?_
      rw [z] at h3
      unfold qS
      rw [if_neg (by rw [h3]; exact nI_neg1 (by omega))]
      show va_up p.1 (p.2 (sk i)).toNatClampNeg 103 k = 103
      rw [h3, nI_clamp (by omega), va_up_s]
    · refine ih (i + 1) _ ⟨j, ?_, by omega, ?_⟩
      · rcases (by omega : j = i ∨ i + 1 ≤ j) with y | y
        · exact absurd (by rw [y]) z
        · exact y
      · unfold qS
        by_cases q : p.2 (sk i) = -1
        · rw [if_pos q]
          exact h3
        · rw [if_neg q]
          show va_up p.2 (sk i) (-1) (sk j) = nI k
          rw [up_if, if_neg z]
          exact h3
theorem qF_out1 {sk : Nat → Nat} {k nq : Nat} (hk : k < 60) : ∀ m i p, qOK nq p → (∀ j, j < i + m → sk j < nq) → (∀ j, i ≤ j → j < i + m → p.2 (sk j) ≠ nI k) → (qF sk i m p).1 k = p.1 k := by
  intro m
  induction m with
  | zero => intro i p _ _ _; rfl
  | succ m ih =>
    intro i p hq h40 h
    show (qF sk (i + 1) m (qS (sk i) p)).1 k = p.1 k
    rw [ih (i + 1) _ (qS_ok hq) (fun j hj => h40 j (by omega)) (fun j j1 j2 => ?_)]
    · unfold qS
      by_cases q : p.2 (sk i) = -1
      · rw [if_pos q]
      · rw [if_neg q]
        show va_up p.1 (p.2 (sk i)).toNatClampNeg 103 k = p.1 k
        rcases hq (sk i) (h40 i (by omega)) with y | ⟨k2, y1, y2⟩
        · exact absurd y q
        · rw [up_if, y2, nI_clamp (by omega), if_neg (fun z => h i (Nat.le_refl i) (by omega) (by rw [y2, z]))]
    · unfold qS
      by_cases q : p.2 (sk i) = -1
      · rw [if_pos q]
        exact h j (by omega) (by omega)
      · rw [if_neg q]
        show va_up p.2 (sk i) (-1) (sk j) ≠ nI k
        rw [up_if]
        by_cases z : sk j = sk i
        · rw [if_pos z]
          exact fun w => nI_neg1 (a := k) (by omega) w.symm
        · rw [if_neg z]
          exact h j (by omega) (by omega)
theorem qF_in2 {sk : Nat → Nat} {c : Nat} : ∀ m i p, (p.2 c = -1 ∨ ∃ j, i ≤ j ∧ j < i + m ∧ sk j = c) → (qF sk i m p).2 c = -1 := by
  intro m
  induction m with
  | zero =>
    intro i p h
    rcases h with h | ⟨j, h1, h2, _⟩
    · exact h
    · omega
  | succ m ih =>
    intro i p h
    show (qF sk (i + 1) m (qS (sk i) p)).2 c = -1
    by_cases z : (qS (sk i) p).2 c = -1
    · exact ih (i + 1) _ (Or.inl z)
    · refine ih (i + 1) _ (Or.inr ?_)
      have hne : c ≠ sk i := fun y => z (by
        unfold qS
        by_cases q : p.2 (sk i) = -1
        · rw [if_pos q, y]
          exact q
        · rw [if_neg q]
          show va_up p.2 (sk i) (-1) c = -1
          rw [up_if, if_pos y])
      rcases h with h | ⟨j, h1, h2, h3⟩
      · refine absurd ?_ z
        unfold qS
        by_cases q : p.2 (sk i) = -1
        · rw [if_pos q]
          exact h
        · rw [if_neg q]
          show va_up p.2 (sk i) (-1) c = -1
          rw [up_if, if_neg hne]
          exact h
      · refine ⟨j, ?_, by omega, h3⟩
        rcases (by omega : j = i ∨ i + 1 ≤ j) with y | y
        · rw [y] at h3
          exact absurd h3.symm hne
        · exact y
theorem qF_out2 {sk : Nat → Nat} {c : Nat} : ∀ m i p, (∀ j, i ≤ j → j < i + m → sk j ≠ c) → (qF sk i m p).2 c = p.2 c := by
  intro m
  induction m with
  | zero => intro i p _; rfl
  | succ m ih =>
    intro i p h
    show (qF sk (i + 1) m (qS (sk i) p)).2 c = p.2 c
    rw [ih (i + 1) _ (fun j j1 j2 => h j (by omega) (by omega))]
    unfold qS
    by_cases q : p.2 (sk i) = -1
    · rw [if_pos q]
    · rw [if_neg q]
      show va_up p.2 (sk i) (-1) c = p.2 c
      rw [up_if, if_neg (fun y => h i (Nat.le_refl i) (by omega) y.symm)]
theorem qF_ok {sk : Nat → Nat} {nq : Nat} : ∀ m i p, qOK nq p → qOK nq (qF sk i m p) := by
  intro m
  induction m with
  | zero => intro i p h; exact h
  | succ m ih => intro i p h; exact ih (i + 1) _ (qS_ok h)
theorem cnt_undo {K : KS} {d no ns : Nat} {sl : Nat → Nat} (h1 : ∀ j, j < ns → sl j < no) (hin : ∀ i j, i < ns → j < ns → sl i = sl j → i = j) (h98 : ∀ k, k < no → K 5 5 k = nI d → K 5 4 k = 98) : ∀ j, j ≤ ns → cntE (sF K d sl j) 98 no + uN K d sl j = cntE (K 5 4) 98 no := by
  intro j
  induction j with
  | zero => intro _; rfl
  | succ j ih =>
    intro hj
    have hi := ih (by omega)
    show cntE (if K 5 5 (sl j) = nI d then va_up (sF K d sl j) (sl j) 103 else sF K d sl j) 98 no + (uN K d sl j + if K 5 5 (sl j) = nI d then 1 else 0) = _
    by_cases q : K 5 5 (sl j) = nI d
    · rw [if_pos q, if_pos q]
      have e : sF K d sl j (sl j) = 98 := by
        rw [sE_sF, sE_same j (fun i hi2 z => by have := hin i j (by omega) (by omega) z; omega)]
        exact h98 _ (h1 j (by omega)) q
      have u := cntE_up (f := sF K d sl j) (k := sl j) (n := no) 98 103 (h1 j (by omega))
      rw [if_pos e, if_neg (by decide)] at u
      omega
    · rw [if_neg q, if_neg q]
      exact hi
theorem cl_sdu {K : KS} {d ns np : Nat} {sl : Nat → Nat} (hnp : np ≤ 6) (h4 : ∀ j, j < ns → K 5 5 (sl j) = nI d → ∃ q, q < np ∧ K 5 3 (sl j) = nI q) (sd0 : K 0 3 0 + K 0 4 0 + sumI (K 10 0) np = K 0 2 0) : ∀ j, j ≤ ns → K 0 3 0 + (K 0 4 0 - sumI (fun i => fPr K d (sl i)) j) + sumI (cG K d sl j) np = K 0 2 0 := by
  intro j
  induction j with
  | zero =>
    intro _
    show K 0 3 0 + (K 0 4 0 - 0) + sumI (fun p => K 10 0 p + 0) np = _
    rw [sumI_cong (f := fun p => K 10 0 p + 0) (g := K 10 0) (fun i _ => Int32.add_zero _), ← sd0, Int32.sub_zero]
  | succ j ih =>
    intro hj
    have hi := ih (by omega)
    show K 0 3 0 + (K 0 4 0 - (sumI (fun i => fPr K d (sl i)) j + fPr K d (sl j))) + sumI (cG K d sl (j + 1)) np = _
    by_cases z : K 5 5 (sl j) = nI d
    · obtain ⟨q, hq, hqs⟩ := h4 j (by omega) z
      have e2 : fPr K d (sl j) = K 5 1 (sl j) := by unfold fPr; rw [if_pos z]
      rw [sumI_one (f := cG K d sl j) (g := cG K d sl (j + 1)) (x := K 5 1 (sl j)) hq (fun p hp => by
        show K 10 0 p + (sumI (fun i => fBu K d p (sl i)) j + fBu K d p (sl j)) = if p = q then K 10 0 p + sumI (fun i => fBu K d p (sl i)) j + K 5 1 (sl j) else K 10 0 p + sumI (fun i => fBu K d p (sl i)) j
        by_cases w : p = q
        · rw [if_pos w, show fBu K d p (sl j) = K 5 1 (sl j) by unfold fBu; rw [if_pos ⟨z, by rw [hqs, nI_clamp (by omega), w]⟩], Int32.add_assoc]
        · rw [if_neg w, show fBu K d p (sl j) = 0 by unfold fBu; rw [if_neg (fun v => w (by rw [← v.2, hqs, nI_clamp (by omega)]))], Int32.add_zero]), e2, ← hi]
      generalize sumI (fun i => fPr K d (sl i)) j = A
      generalize sumI (cG K d sl j) np = B
      grind
    · have e2 : fPr K d (sl j) = 0 := by unfold fPr; rw [if_neg z]
      have e3 : cG K d sl (j + 1) = cG K d sl j := by
        funext p
        show K 10 0 p + (sumI (fun i => fBu K d p (sl i)) j + fBu K d p (sl j)) = _
        rw [show fBu K d p (sl j) = 0 by unfold fBu; rw [if_neg (fun w => z w.1)], Int32.add_zero]
        rfl
      rw [e2, e3, Int32.add_zero]
      exact hi

