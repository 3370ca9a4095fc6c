/-! Restakes, the reference's loops. -/
def mR (M : KS) (st : Nat → Int32) (p : (Nat → Int32) × (Nat → Int32)) : KS := kr (kr (kr M 13 8 st) 13 32 p.1) 16 10 p.2
theorem mR_8 {M : KS} {st : Nat → Int32} {p : (Nat → Int32) × (Nat → Int32)} {x : LX} {c : Nat} {v : Int32} : k3 (mH (mR M st p) x) 13 8 c v = mH (mR M (va_up st c v) p) x := by
  show kr (mH (mR M st p) x) 13 8 (va_up st c v) = _
  rw [mH_sw _ (by omega) (by omega) (by omega)]
  congr 1
  unfold mR kr va_up
  funext a b y
  grind
theorem mR_10 {M : KS} {st : Nat → Int32} {f g : Nat → Int32} {x : LX} {c k : Nat} {v w : Int32} : k3 (k3 (mH (mR M st (f, g)) x) 13 32 k v) 16 10 c w = mH (mR M st (va_up f k v, va_up g c w)) x := by
  show kr (kr (mH (mR M st (f, g)) x) 13 32 (va_up f k v)) 16 10 (va_up g c w) = _
  rw [mH_sw _ (by omega) (by omega) (by omega), mH_sw _ (by omega) (by omega) (by omega)]
  congr 1
  unfold mR kr va_up
  funext a b y
  grind
def qS (c : Nat) (p : (Nat → Int32) × (Nat → Int32)) : (Nat → Int32) × (Nat → Int32) := if p.2 c = -1 then p else (va_up p.1 (p.2 c).toNatClampNeg 103, va_up p.2 c (-1))
def qF (sk : Nat → Nat) : Nat → Nat → (Nat → Int32) × (Nat → Int32) → (Nat → Int32) × (Nat → Int32)
  | _, 0, p => p
  | i, m + 1, p => qF sk (i + 1) m (qS (sk i) p)
def qOK (n : Nat) (p : (Nat → Int32) × (Nat → Int32)) : Prop := ∀ c, c < n → p.2 c = -1 ∨ ∃ k, k < 60 ∧ p.2 c = nI k
theorem qS_ok {c nq : Nat} {p : (Nat → Int32) × (Nat → Int32)} (h : qOK nq p) : qOK nq (qS c p) := by
  intro x hx
  unfold qS
  by_cases q : p.2 c = -1
  · rw [if_pos q]
    exact h x hx
  · rw [if_neg q]
    show va_up p.2 c (-1) x = -1 ∨ ∃ k, k < 60 ∧ va_up p.2 c (-1) x = nI k
    rw [up_if]
    by_cases z : x = c
    · rw [if_pos z]
      exact Or.inl rfl
    · rw [if_neg z]
      exact h x hx
theorem ml_rs9 {post : Unit → KS → Int64 → Prop} {bk2 : Int32 → Int32 → KS → Int64 → Prop} {M : KS} {ap : Int64} {d e n nq : Nat} {w : Int32} {sk : Nat → Nat} (hnq : nq ≤ 40) (hd : d < 8) (he : e < 2) (h21 : M 16 21 (2 * d + e) = nI n) (hn : n ≤ 8) (h22 : ∀ i, i < n → M 16 22 (8 * (2 * d + e) + i) = nI (sk i) ∧ sk i < nq) (hw0 : e = 0 → M 16 14 d = w) (hw1 : e ≠ 0 → M 16 15 d = w) (hw : w ≠ -1) : ∀ m i st p x, i + m = n → qOK nq p → (hF sk w i m x).1 < 4000 → bk2 (nI d) (nI (e + 1)) (mH (mR M (stF sk 115 i m st) (qF sk i m p)) (hF sk w i m x)) ap → wX7_restakes_9 post bk2 (m + 1) (nI d) (nI e) (nI i) (mH (mR M st p) x) ap := by
  intro m
  induction m with
  | zero =>
    intro i st p x hi hq hP hp
    have hi2 : i = n := by omega
    subst hi2
    have e21 : (mH (mR M st p) x) 16 21 (2 * d + e) = nI i := h21
    unfold wX7_restakes_9
    rw [ix2, nI_clamp (n := 2 * d + e) (by omega), e21, nI_1 (a := e)]
    exact ⟨vp_in_nI (by omega) (by omega), fun _ => hp, fun z => absurd (nI_le (a := i) (b := i) (by omega) (by omega)) z⟩
  | succ m ih =>
    intro i st p x hi hq hP hp
    obtain ⟨a1, a2⟩ := h22 i (by omega)
    have e21 : (mH (mR M st p) x) 16 21 (2 * d + e) = nI n := h21
    have e22 : (mH (mR M st p) x) 16 22 (8 * (2 * d + e) + i) = nI (sk i) := a1
    have hge : (hS (sk i) w x).1 ≤ (hF sk w i (m + 1) x).1 := hF_ge m (i + 1) (hS (sk i) w x)
    have hge2 := hS_ge (c := sk i) (w := w) (x := x)
    have go103 : ∀ p2, qOK nq p2 → p2 = qS (sk i) p → wX7_restakes_103 post bk2 (wX7_restakes_9 post bk2 (m + 1)) (nI d) (nI e) (nI i) (nI (sk i)) w (mH (mR M (va_up st (sk i) 115) p2) x) ap := by
      intro p2 hq2 hp2
      have e7 : (mH (mR M (va_up st (sk i) 115) p2) x) 16 7 (sk i) = x.2.2 (sk i) := rfl
      have nxt : ∀ x2, x2 = hS (sk i) w x → wX7_restakes_130 post bk2 (wX7_restakes_9 post bk2 (m + 1)) (nI d) (nI e) (nI i) (mH (mR M (va_up st (sk i) 115) p2) x2) ap := by
        intro x2 hx2
        unfold wX7_restakes_130
        rw [nI_1]
        refine ih (i + 1) _ p2 x2 (by omega) hq2 ?_ ?_
        · rw [hx2]
          exact hP
        · rw [hx2, hp2]
          exact hp
      unfold wX7_restakes_103
      rw [nI_clamp (n := sk i) (by omega), e7]
      refine ⟨vp_in_nI (by omega) (by omega), fun z => nxt x ?_, fun z => ?_⟩
      · unfold hS
        rw [if_pos (Or.inr z)]
      · have es : hS (sk i) w x = hE (sk i) (x.2.2 (sk i)) w x := by
          unfold hS
          rw [if_neg (fun y => y.elim hw z)]
        have e1 : (hE (sk i) (x.2.2 (sk i)) w x).1 = x.1 + 1 := rfl
        refine mp_ok (by rw [es, e1] at hge; omega) (by omega) ?_
        exact nxt _ es.symm
    have run : wX7_restakes_59 post bk2 (wX7_restakes_9 post bk2 (m + 1)) (nI d) (nI e) (nI i) (nI (sk i)) w (mH (mR M st p) x) ap := by
      unfold wX7_restakes_59
      rw [nI_clamp (n := sk i) (by omega), mR_8]
      have e10 : (mH (mR M (va_up st (sk i) 115) p) x) 16 10 (sk i) = p.2 (sk i) := rfl
      rw [e10]
      refine ⟨vp_in_nI (by omega) (by omega), vp_in_nI (by omega) (by omega), fun z => ?_, fun z => ?_⟩
      · refine go103 p hq ?_
        unfold qS
        rw [if_pos z]
      · rcases hq (sk i) a2 with y | ⟨k, k1, k2⟩
        · exact absurd y z
        · refine ⟨by rw [k2]; exact vp_in_nI k1 (by omega), ?_⟩
          have ep : mH (mR M (va_up st (sk i) 115) p) x = mH (mR M (va_up st (sk i) 115) (p.1, p.2)) x := rfl
          rw [ep, mR_10]
          have eq : qS (sk i) p = (va_up p.1 (p.2 (sk i)).toNatClampNeg 103, va_up p.2 (sk i) (-1)) := by
            unfold qS
            rw [if_neg z]
          exact go103 _ (by rw [← eq]; exact qS_ok hq) eq.symm
    unfold wX7_restakes_9
    rw [ix2, nI_clamp (n := 2 * d + e) (by omega), e21, ix8, nI_clamp (n := 8 * (2 * d + e) + i) (by omega), e22, nI_clamp (n := d) (by omega)]
    refine ⟨vp_in_nI (by omega) (by omega), fun z => absurd z (nI_ge (a := i) (b := n) (by omega) (by omega)), fun _ => ⟨vp_in_nI (by omega) (by omega), fun x5 hx5 => ?_⟩⟩
    rw [hx5]
    refine ⟨fun z => ⟨vp_in_nI hd (by omega), ?_⟩, fun z => ⟨vp_in_nI hd (by omega), ?_⟩⟩
    · have ew : (mH (mR M st p) x) 16 15 d = w := hw1 (fun y => z (by rw [y]; rfl))
      rw [ew]
      exact run
    · have ee : e = 0 := (nI_eq (b := 0) (by omega) (by omega)).mp z
      have ew : (mH (mR M st p) x) 16 14 d = w := hw0 ee
      rw [ew]
      exact run
theorem ml_rest {post : Unit → KS → Int64 → Prop} {M : KS} {ap : Int64} {d nq : Nat} {w0 w1 : Int32} {cn : Nat → Nat} {sk : Nat → Nat → Nat} {st : Nat → Int32} {p : (Nat → Int32) × (Nat → Int32)} {x : LX} (hnq : nq ≤ 40) (hd : d < 8) (h21 : ∀ e, e < 2 → M 16 21 (2 * d + e) = nI (cn (2 * d + e)) ∧ cn (2 * d + e) ≤ 8) (h22 : ∀ e, e < 2 → ∀ i, i < cn (2 * d + e) → M 16 22 (8 * (2 * d + e) + i) = nI (sk (2 * d + e) i) ∧ sk (2 * d + e) i < nq) (hw0 : M 16 14 d = w0) (hw1 : M 16 15 d = w1) (hn0 : w0 ≠ -1) (hn1 : w1 ≠ -1) (hq : qOK nq p) (hP : (hF (sk (2 * d + 1)) w1 0 (cn (2 * d + 1)) (hF (sk (2 * d)) w0 0 (cn (2 * d)) x)).1 < 4000) (hp : post () (mH (mR M (stF (sk (2 * d + 1)) 115 0 (cn (2 * d + 1)) (stF (sk (2 * d)) 115 0 (cn (2 * d)) st)) (qF (sk (2 * d + 1)) 0 (cn (2 * d + 1)) (qF (sk (2 * d)) 0 (cn (2 * d)) p))) (hF (sk (2 * d + 1)) w1 0 (cn (2 * d + 1)) (hF (sk (2 * d)) w0 0 (cn (2 * d)) x))) ap) : wpX7_restakes post (mH (mR M st p) x) ap (nI d) := by
  have qq : ∀ m i p, qOK nq p → qOK nq (qF (sk (2 * d)) i m p) := by
    intro m
    induction m with
    | zero => intro i p h; exact h
    | succ m ih => intro i p h; exact ih (i + 1) _ (qS_ok h)
  have hge := hF_ge (sk := sk (2 * d + 1)) (w := w1) (cn (2 * d + 1)) 0 (hF (sk (2 * d)) w0 0 (cn (2 * d)) x)
  unfold wpX7_restakes
  refine ⟨3, ?_⟩
  unfold wX7_restakes_2
  refine ⟨fun z => absurd z (by decide), fun _ => ⟨cn (2 * d) + 1, ?_⟩⟩
  refine ml_rs9 (e := 0) (n := cn (2 * d)) (sk := sk (2 * d)) (w := w0) hnq hd (by omega) (h21 0 (by omega)).1 (h21 0 (by omega)).2 (fun i hi => h22 0 (by omega) i hi) (fun _ => hw0) (fun z => absurd rfl z) hn0 (cn (2 * d)) 0 st p x (by omega) hq (by omega) ?_
  unfold wX7_restakes_2
  refine ⟨fun z => absurd z (by decide), fun _ => ⟨cn (2 * d + 1) + 1, ?_⟩⟩
  refine ml_rs9 (e := 1) (n := cn (2 * d + 1)) (sk := sk (2 * d + 1)) (w := w1) hnq hd (by omega) (h21 1 (by omega)).1 (h21 1 (by omega)).2 (fun i hi => h22 1 (by omega) i hi) (fun z => absurd z (by omega)) (fun _ => hw1) hn1 (cn (2 * d + 1)) 0 _ _ _ (by omega) (qq _ 0 _ hq) hP ?_
  unfold wX7_restakes_2
  exact ⟨fun _ => hp, fun z => absurd (by decide) z⟩
