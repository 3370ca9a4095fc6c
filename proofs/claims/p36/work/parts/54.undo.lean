/-! Sales undone: the class's loop. -/
def sF (K : KS) (d : Nat) (sl : Nat → Nat) : Nat → (Nat → Int32)
  | 0 => K 5 4
  | j + 1 => if K 5 5 (sl j) = nI d then va_up (sF K d sl j) (sl j) 103 else sF K d sl j
def fBu (K : KS) (d p k : Nat) : Int32 := if K 5 5 k = nI d ∧ (K 5 3 k).toNatClampNeg = p then K 5 1 k else 0
def cG (K : KS) (d : Nat) (sl : Nat → Nat) (j : Nat) : Nat → Int32 := fun p => K 10 0 p + sumI (fun i => fBu K d p (sl i)) j
def aG (K : KS) (d : Nat) (sl : Nat → Nat) (j : Nat) : Nat → Int32 := va_up (K 0 4) 0 (K 0 4 0 - sumI (fun i => fPr K d (sl i)) j)
def uP (K : KS) (d : Nat) (sl : Nat → Nat) (j : Nat) : KS := kr (kr (kr (kr K 5 5 (wF K d sl j)) 5 4 (sF K d sl j)) 0 4 (aG K d sl j)) 10 0 (cG K d sl j)
def uX (K : KS) (d : Nat) (sl : Nat → Nat) (x : LXp) : Nat → LXp
  | 0 => x
  | j + 1 => if K 5 5 (sl j) = nI d then hS (K 5 0 (sl j)).toNatClampNeg (K 5 2 (sl j)) (uX K d sl x j) else uX K d sl x j
def uN (K : KS) (d : Nat) (sl : Nat → Nat) : Nat → Nat
  | 0 => 0
  | j + 1 => uN K d sl j + if K 5 5 (sl j) = nI d then 1 else 0
theorem uN_le (K : KS) (d : Nat) (sl : Nat → Nat) : ∀ j, uN K d sl j ≤ j := by
  intro j
  induction j with
  | zero => exact Nat.le_refl 0
  | succ j ih =>
    show uN K d sl j + (if K 5 5 (sl j) = nI d then 1 else 0) ≤ j + 1
    by_cases q : K 5 5 (sl j) = nI d
    · rw [if_pos q]
      omega
    · rw [if_neg q]
      omega
theorem uX_le (K : KS) (d : Nat) (sl : Nat → Nat) (x : LXp) : ∀ j, (uX K d sl x j).1 ≤ x.1 + uN K d sl j := by
  intro j
  induction j with
  | zero => exact Nat.le_refl _
  | succ j ih =>
    show (if K 5 5 (sl j) = nI d then hS (K 5 0 (sl j)).toNatClampNeg (K 5 2 (sl j)) (uX K d sl x j) else uX K d sl x j).1 ≤ x.1 + (uN K d sl j + if K 5 5 (sl j) = nI d then 1 else 0)
    by_cases q : K 5 5 (sl j) = nI d
    · rw [if_pos q, if_pos q]
      have := hS_le (c := (K 5 0 (sl j)).toNatClampNeg) (w := K 5 2 (sl j)) (x := uX K d sl x j)
      omega
    · rw [if_neg q, if_neg q]
      exact ih
theorem uX_ge (K : KS) (d : Nat) (sl : Nat → Nat) (x : LXp) (i : Nat) : ∀ m, (uX K d sl x i).1 ≤ (uX K d sl x (i + m)).1 := by
  intro m
  induction m with
  | zero => exact Nat.le_refl _
  | succ m ih =>
    refine Nat.le_trans ih ?_
    show _ ≤ (if K 5 5 (sl (i + m)) = nI d then hS (K 5 0 (sl (i + m))).toNatClampNeg (K 5 2 (sl (i + m))) (uX K d sl x (i + m)) else uX K d sl x (i + m)).1
    by_cases q : K 5 5 (sl (i + m)) = nI d
    · rw [if_pos q]
      exact hS_ge
    · rw [if_neg q]
      exact Nat.le_refl _
theorem kr4 (K : KS) (W S A C W' S' A' C' : Nat → Int32) : kr (kr (kr (kr (kr (kr (kr (kr K 5 5 W) 5 4 S) 0 4 A) 10 0 C) 5 5 W') 5 4 S') 0 4 A') 10 0 C' = kr (kr (kr (kr K 5 5 W') 5 4 S') 0 4 A') 10 0 C' := by
  funext x y z
  unfold kr va_up
  grind
theorem uP_step {K : KS} {d q j r : Nat} {sl : Nat → Nat} {y : LXp} (h : K 5 5 (sl j) = nI d) (hb : K 5 3 (sl j) = nI q) (hq : q < 6) : k3 (k3 (k3 (k3 (kH (uP K d sl j) r y) 5 5 (sl j) (-1)) 5 4 (sl j) 103) 0 4 0 (aG K d sl j 0 - K 5 1 (sl j))) 10 0 q (cG K d sl j q + K 5 1 (sl j)) = kH (uP K d sl (j + 1)) r y := by
  show kr (kr (kr (kr (kH (uP K d sl j) r y) 5 5 (va_up (wF K d sl j) (sl j) (-1))) 5 4 (va_up (sF K d sl j) (sl j) 103)) 0 4 (va_up (aG K d sl j) 0 (aG K d sl j 0 - K 5 1 (sl j)))) 10 0 (va_up (cG K d sl j) q (cG K d sl j q + K 5 1 (sl j))) = _
  rw [kH_sw _ (by omega) (by omega) (by omega) (by omega), kH_sw _ (by omega) (by omega) (by omega) (by omega), kH_sw _ (by omega) (by omega) (by omega) (by omega), kH_sw _ (by omega) (by omega) (by omega) (by omega)]
  congr 1
  unfold uP
  rw [kr4]
  have e1 : wF K d sl (j + 1) = va_up (wF K d sl j) (sl j) (-1) := by
    show (if K 5 5 (sl j) = nI d then va_up (wF K d sl j) (sl j) (-1) else wF K d sl j) = _
    rw [if_pos h]
  have e2 : sF K d sl (j + 1) = va_up (sF K d sl j) (sl j) 103 := by
    show (if K 5 5 (sl j) = nI d then va_up (sF K d sl j) (sl j) 103 else sF K d sl j) = _
    rw [if_pos h]
  have e3 : aG K d sl (j + 1) = va_up (aG K d sl j) 0 (aG K d sl j 0 - K 5 1 (sl j)) := by
    funext p
    show va_up (K 0 4) 0 (K 0 4 0 - (sumI (fun i => fPr K d (sl i)) j + fPr K d (sl j))) p = va_up (va_up (K 0 4) 0 (K 0 4 0 - sumI (fun i => fPr K d (sl i)) j)) 0 (va_up (K 0 4) 0 (K 0 4 0 - sumI (fun i => fPr K d (sl i)) j) 0 - K 5 1 (sl j)) p
    rw [show fPr K d (sl j) = K 5 1 (sl j) by unfold fPr; rw [if_pos h], up_if, up_if, va_up_s]
    by_cases z : p = 0
    · rw [if_pos z, if_pos z]
      generalize sumI (fun i => fPr K d (sl i)) j = B
      grind
    · rw [if_neg z, if_neg z, up_if, if_neg z]
  have e4 : cG K d sl (j + 1) = va_up (cG K d sl j) q (cG K d sl j q + K 5 1 (sl j)) := by
    funext p
    show K 10 0 p + (sumI (fun i => fBu K d p (sl i)) j + fBu K d p (sl j)) = _
    rw [up_if]
    unfold fBu
    rw [hb, nI_clamp (by omega)]
    by_cases w : p = q
    · rw [if_pos w, if_pos ⟨h, w.symm⟩, ← Int32.add_assoc, w]
      rfl
    · rw [if_neg w, if_neg (fun v => w v.2.symm), Int32.add_zero]
      rfl
  rw [e1, e2, e3, e4]
theorem uP_skip {K : KS} {d j : Nat} {sl : Nat → Nat} (h : ¬ K 5 5 (sl j) = nI d) : uP K d sl (j + 1) = uP K d sl j := by
  have e1 : wF K d sl (j + 1) = wF K d sl j := by
    show (if K 5 5 (sl j) = nI d then va_up (wF K d sl j) (sl j) (-1) else wF K d sl j) = _
    rw [if_neg h]
  have e2 : sF K d sl (j + 1) = sF K d sl j := by
    show (if K 5 5 (sl j) = nI d then va_up (sF K d sl j) (sl j) 103 else sF K d sl j) = _
    rw [if_neg h]
  have e3 : aG K d sl (j + 1) = aG K d sl j := by
    show va_up (K 0 4) 0 (K 0 4 0 - (sumI (fun i => fPr K d (sl i)) j + fPr K d (sl j))) = _
    rw [show fPr K d (sl j) = 0 by unfold fPr; rw [if_neg h], Int32.add_zero]
    rfl
  have e4 : cG K d sl (j + 1) = cG K d sl j := by
    funext p
    show K 10 0 p + (sumI (fun i => fBu K d p (sl i)) j + fBu K d p (sl j)) = _
    rw [show fBu K d p (sl j) = 0 by unfold fBu; rw [if_neg (fun w => h w.1)], Int32.add_zero]
    rfl
  unfold uP
  rw [e1, e2, e3, e4]
theorem cl_undo {post : Int32 → KS → Prop} {K : KS} {mc ms no ns np nc d : Nat} {sl : Nat → Nat} {X : LXp} (hO : nO K = no) (hC : nC K = nc) (ns1 : K 8 2 3 = nI ns) (lc3 : lcp (K 8 3 3) ns) (hns : ns ≤ 60) (hnp : np ≤ 6) (hno : no ≤ 60) (hnc : nc ≤ 40) (h3 : ∀ j, j < ns → K 9 3 (ns - 1 - j) = nI (sl j) ∧ sl j < no) (hin : ∀ i j, i < ns → j < ns → sl i = sl j → i = j) (h4 : ∀ k, k < no → K 5 5 k = nI d → ∃ q, q < np ∧ K 5 3 k = nI q) (h5 : ∀ k, k < no → ∃ c, c < nc ∧ K 5 0 k = nI c) (h6 : ∀ k, k < no → ∃ q, q < np ∧ K 5 2 k = nI q) (h0 : ∀ c, c < nc → K 4 0 c = nI c) (hP : (uX K d sl X ns).1 < 4000) : ∀ m i r y uc us, uc ≤ mc → us ≤ ms → i + m = ns → hRf y (uX K d sl X i) → rOK r → 3 * (uX K d sl X i).1 ≤ r → (3 * (uX K d sl X ns).1 ≤ r ∨ (uc + 1 ≤ mc ∧ us + 2 * r ≤ ms ∧ 3 * (uX K d sl X ns).1 ≤ 2 * r)) → (∀ r2 y2, rOK r2 → 3 * (uX K d sl X ns).1 ≤ r2 → (r2 = r ∨ (r2 = 2 * r ∧ ¬ 3 * (uX K d sl X ns).1 ≤ r)) → hRf y2 (uX K d sl X ns) → post (nI (uN K d sl ns)) (kH (uP K d sl ns) r2 y2)) → wX6_undoSales_12 post mc ms (m + 1) uc us (nI d) (nI (uN K d sl i)) (nI m - 1) (kH (uP K d sl i) r y) := by
  intro m
  induction m with
  | zero =>
    intro i r y uc us _ _ hi hyx hr h5' _ hp
    have hi2 : i = ns := by omega
    subst hi2
    unfold wX6_undoSales_12
    exact ⟨fun _ => hp r y hr h5' (Or.inl rfl) hyx, fun z => absurd (by decide) z⟩
  | succ m ih =>
    intro i r y uc us hu1 hu2 hi hyx hr h5' hb hp
    obtain ⟨a1, a2⟩ := h3 i (by omega)
    rw [show ns - 1 - i = m by omega] at a1
    obtain ⟨c, c1, c2⟩ := h5 (sl i) a2
    obtain ⟨p, p1, p2⟩ := h6 (sl i) a2
    have eo : (K 9 3 (nI m).toNatClampNeg).toNatClampNeg = sl i := by rw [nI_clamp (by omega), a1, nI_clamp (by omega)]
    have e55 : (uP K d sl i) 5 5 (sl i) = K 5 5 (sl i) := wF_same i (fun j hj z => by have := hin j i (by omega) (by omega) z; omega)
    have hm1 : nI m + (-1) = nI m - 1 := (Int32.sub_eq_add_neg _ _).symm
    have hge := uX_ge K d sl X (i + 1) m
    rw [show i + 1 + m = ns by omega] at hge
    unfold wX6_undoSales_12
    rw [nI_pred]
    refine ⟨fun z => absurd z (nI_pos (by omega)), fun _ => ⟨ok_get (K := kH (uP K d sl i) r y) ns1 lc3 (by omega) (by omega), ?_⟩⟩
    show (K 9 3 (nI m).toNatClampNeg).toNatClampNeg < nO K ∧ (¬ (uP K d sl i) 5 5 (K 9 3 (nI m).toNatClampNeg).toNatClampNeg = nI d → wX6_undoSales_96 post mc ms (wX6_undoSales_12 post mc ms (m + 1)) uc us (nI d) (nI (uN K d sl i)) (nI m) (kH (uP K d sl i) r y)) ∧ ((uP K d sl i) 5 5 (K 9 3 (nI m).toNatClampNeg).toNatClampNeg = nI d → wpX6_addCoins (fun _ K5 => (K 9 3 (nI m).toNatClampNeg).toNatClampNeg < nO K5 ∧ ∃ a7 a8 : Nat, uc + a7 ≤ mc ∧ us + a8 ≤ ms ∧ wpX6_hand (fun _ K9 => wX6_undoSales_96 post mc ms (wX6_undoSales_12 post mc ms (m + 1)) (uc + a7) (us + a8) (nI d) (nI (uN K d sl i) + 1) (nI m) K9) a7 a8 K5 (K5 5 0 (K 9 3 (nI m).toNatClampNeg).toNatClampNeg).toNatClampNeg (K5 5 2 (K 9 3 (nI m).toNatClampNeg).toNatClampNeg)) (k3 (k3 (k3 (kH (uP K d sl i) r y) 5 5 (K 9 3 (nI m).toNatClampNeg).toNatClampNeg (-1)) 5 4 (K 9 3 (nI m).toNatClampNeg).toNatClampNeg 103) 0 4 0 (aG K d sl i 0 - K 5 1 (K 9 3 (nI m).toNatClampNeg).toNatClampNeg)) (K 5 3 (K 9 3 (nI m).toNatClampNeg).toNatClampNeg) (K 5 1 (K 9 3 (nI m).toNatClampNeg).toNatClampNeg))
    rw [eo, e55]
    refine ⟨by omega, fun z => ?_, fun z => ?_⟩
    · have es : uX K d sl X (i + 1) = uX K d sl X i := by
        show (if K 5 5 (sl i) = nI d then hS (K 5 0 (sl i)).toNatClampNeg (K 5 2 (sl i)) (uX K d sl X i) else uX K d sl X i) = _
        rw [if_neg z]
      have en : uN K d sl (i + 1) = uN K d sl i := by
        show uN K d sl i + (if K 5 5 (sl i) = nI d then 1 else 0) = _
        rw [if_neg z, Nat.add_zero]
      have hi2 := ih (i + 1) r y uc us hu1 hu2 (by omega) (by rw [es]; exact hyx) hr (by rw [es]; exact h5') hb hp
      rw [en, uP_skip z] at hi2
      unfold wX6_undoSales_96
      rw [hm1]
      exact hi2
    · obtain ⟨q, q1, q2⟩ := h4 (sl i) a2 z
      have es : uX K d sl X (i + 1) = hS c (nI p) (uX K d sl X i) := by
        show (if K 5 5 (sl i) = nI d then hS (K 5 0 (sl i)).toNatClampNeg (K 5 2 (sl i)) (uX K d sl X i) else uX K d sl X i) = _
        rw [if_pos z, c2, p2, nI_clamp (by omega)]
      have en : nI (uN K d sl i) + 1 = nI (uN K d sl (i + 1)) := by
        rw [nI_1]
        show _ = nI (uN K d sl i + (if K 5 5 (sl i) = nI d then 1 else 0))
        rw [if_pos z]
      have hwp : nI p ≠ -1 := nI_neg1 (by omega)
      rw [q2]
      refine cl_addCoins (by omega) ?_
      show sl i < nO K ∧ ∃ a7 a8 : Nat, uc + a7 ≤ mc ∧ us + a8 ≤ ms ∧ wpX6_hand (fun _ K9 => wX6_undoSales_96 post mc ms (wX6_undoSales_12 post mc ms (m + 1)) (uc + a7) (us + a8) (nI d) (nI (uN K d sl i) + 1) (nI m) K9) a7 a8 (k3 (k3 (k3 (k3 (kH (uP K d sl i) r y) 5 5 (sl i) (-1)) 5 4 (sl i) 103) 0 4 0 (aG K d sl i 0 - K 5 1 (sl i))) 10 0 q (cG K d sl i q + K 5 1 (sl i))) (K 5 0 (sl i)).toNatClampNeg (K 5 2 (sl i))
      rw [uP_step z q2 (by omega), c2, p2, nI_clamp (n := c) (by omega), en]
      refine ⟨by omega, ?_⟩
      by_cases hq : (uX K d sl X i).2.2 c = nI p ∨ 3 * ((uX K d sl X i).1 + 1) ≤ r
      · refine ⟨0, 0, by omega, by omega, ?_⟩
        refine hand_ok (nc := nc) hyx hr h5' (by rw [es] at hge; have := hS_ge (c := c) (w := nI p) (x := uX K d sl X i); omega) hC c1 (h0 _ c1) hwp (hq.imp id Or.inl) (fun r2 y2 v1 v2 v3 v4 => ?_)
        have hr2 : r2 = r := by
          rcases v3 with v3 | v3
          · exact v3
          · rcases hq with w | w
            · exact absurd w v3.2.2
            · exact absurd w v3.2.1
        subst hr2
        unfold wX6_undoSales_96
        rw [hm1]
        rw [← es] at v2 v4
        exact ih (i + 1) r2 y2 (uc + 0) (us + 0) (by omega) (by omega) (by omega) v4 v1 v2 hb hp
      · have hne : (uX K d sl X i).2.2 c ≠ nI p := fun w => hq (Or.inl w)
        have hgr : ¬ 3 * ((uX K d sl X i).1 + 1) ≤ r := fun w => hq (Or.inr w)
        have e1 : (hS c (nI p) (uX K d sl X i)).1 = (uX K d sl X i).1 + 1 := by
          unfold hS
          rw [if_neg (fun w => w.elim hwp hne)]
          rfl
        have hge2 : (uX K d sl X i).1 + 1 ≤ (uX K d sl X ns).1 := by rw [← e1, ← es]; exact hge
        have hb2 : uc + 1 ≤ mc ∧ us + 2 * r ≤ ms ∧ 3 * (uX K d sl X ns).1 ≤ 2 * r := by
          rcases hb with w | w
          · omega
          · exact w
        refine ⟨1, 2 * r, hb2.1, hb2.2.1, ?_⟩
        refine hand_ok (nc := nc) hyx hr h5' (by omega) hC c1 (h0 _ c1) hwp (Or.inr (Or.inr ⟨by omega, by omega⟩)) (fun r2 y2 v1 v2 v3 v4 => ?_)
        have hr2 : r2 = 2 * r := by
          rcases v3 with v3 | v3
          · omega
          · exact v3.1
        subst hr2
        unfold wX6_undoSales_96
        rw [hm1]
        rw [← es] at v2 v4
        refine ih (i + 1) (2 * r) y2 (uc + 1) (us + 2 * r) (by omega) (by omega) (by omega) v4 v1 v2 (Or.inl (by omega)) (fun r3 y3 w1 w2 w3 w4 => hp r3 y3 w1 w2 ?_ w4)
        rcases w3 with w3 | w3
        · exact Or.inr ⟨w3, by omega⟩
        · exact absurd (by omega) w3.2

