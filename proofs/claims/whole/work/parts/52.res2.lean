/-! The reference's half of it, and the relation behind it. -/
def mP (M : KS) (g g2 : Nat → Int32) : KS := kr (kr M 16 23 g) 16 25 g2
theorem mP_23 (M : KS) (g g2 : Nat → Int32) (i : Nat) (v : Int32) : k3 (mP M g g2) 16 23 i v = mP M (va_up g i v) g2 := by
  show kr (kr (kr M 16 23 g) 16 25 g2) 16 23 (va_up g i v) = _
  rw [kr_sw _ g2 _ (by omega), kr_kr]
  rfl
theorem mP_25 (M : KS) (g g2 : Nat → Int32) (i : Nat) (v : Int32) : k3 (mP M g g2) 16 25 i v = mP M g (va_up g2 i v) := by
  show kr (kr (kr M 16 23 g) 16 25 g2) 16 25 (va_up g2 i v) = _
  rw [kr_kr]
  rfl
def mS6 (M : KS) (d s : Nat) : KS := k3 (k3 (k3 (k3 (k3 (k3 M 13 16 d 103) 16 18 (2 * d) (M 16 27 (24 * (6 * d + s)))) 16 18 (2 * d + 1) (M 16 27 (24 * (6 * d + s) + 1))) 16 19 d (M 16 27 (24 * (6 * d + s) + 2))) 16 20 d (M 16 27 (24 * (6 * d + s) + 3))) 16 24 d (M 16 27 (24 * (6 * d + s) + 20))
def gR (M : KS) (d s k : Nat) (g g2 : Nat → Int32) : Prop := (∀ i, i < k → g (16 * d + i) = M 16 27 (24 * (6 * d + s) + (4 + i)) ∧ g2 (16 * d + i) = M 16 28 (16 * (6 * d + s) + i)) ∧ ∀ j, (j < 16 * d ∨ 16 * d + 16 ≤ j) → g j = M 16 23 j ∧ g2 j = M 16 25 j
theorem ml_r208 {post : Int32 → KS → Int64 → Prop} {M : KS} {ap : Int64} {d s : Nat} {l3 : Int32} (hd : d < 8) (hs : s < 6) (hp : ∀ g g2, gR M d s 16 g g2 → post l3 (k3 (mP (mS6 M d s) g g2) 16 26 d (nI (s + 1))) ap) : ∀ r k g g2, k + r = 16 → gR M d s k g g2 → wX7_rollBack_208 post (r + 1) (nI d) (nI s) l3 (nI (24 * (6 * d + s))) (nI k) (mP (mS6 M d s) g g2) ap := by
  intro r
  induction r with
  | zero =>
    intro k g g2 hk hg
    have : k = 16 := by omega
    subst this
    unfold wX7_rollBack_208
    rw [nI_clamp (n := d) (by omega), nI_1 (a := s)]
    exact ⟨fun _ => ⟨vp_in_nI hd (by omega), hp g g2 hg⟩, fun z => absurd (nI_le (a := 16) (b := 16) (by omega) (by omega)) z⟩
  | succ r ih =>
    intro k g g2 hk hg
    have ei : nI (24 * (6 * d + s)) + 4 + nI k = nI (24 * (6 * d + s) + (4 + k)) := by
      rw [show nI (24 * (6 * d + s)) + 4 = nI (24 * (6 * d + s) + 4) from nI_add _ 4, nI_add, Nat.add_assoc]
    have i16 := ix16 d k
    have i28 : (16 : Int32) * ((6 : Int32) * nI d + nI s) + nI k = nI (16 * (6 * d + s) + k) := by rw [ix6, ix16]
    unfold wX7_rollBack_208
    rw [ei, i16, i28, nI_clamp (n := 24 * (6 * d + s) + (4 + k)) (by omega), nI_clamp (n := 16 * d + k) (by omega), nI_clamp (n := 16 * (6 * d + s) + k) (by omega), mP_23, mP_25, nI_1 (a := k)]
    refine ⟨fun z => absurd z (nI_ge (a := k) (b := 16) (by omega) (by omega)), fun _ => ⟨vp_in_nI (by omega) (by omega), vp_in_nI (by omega) (by omega), vp_in_nI (by omega) (by omega), vp_in_nI (by omega) (by omega), ih (k + 1) _ _ (by omega) ⟨fun i hi => ?_, fun j hj => ?_⟩⟩⟩
    · rw [up_if, up_if]
      by_cases z : i = k
      · rw [if_pos (by omega), if_pos (by omega), z]
        exact ⟨rfl, rfl⟩
      · rw [if_neg (by omega), if_neg (by omega)]
        exact hg.1 i (by omega)
    · rw [up_if, up_if, if_neg (by omega), if_neg (by omega)]
      exact hg.2 j hj
theorem ml_r106 {post : Int32 → KS → Int64 → Prop} {M : KS} {ap : Int64} {d s : Nat} {l3 : Int32} (hd : d < 8) (hs : s < 6) (hp : ∀ g g2, gR M d s 16 g g2 → post l3 (k3 (mP (mS6 M d s) g g2) 16 26 d (nI (s + 1))) ap) : wX7_rollBack_106 post (nI d) (nI s) l3 M ap := by
  have i0 : (2 : Int32) * nI d = nI (2 * d) := nI_mul 2 d
  have i1 : nI (2 * d) + 1 = nI (2 * d + 1) := nI_add _ 1
  have i24 : (24 : Int32) * (6 * nI d + nI s) = nI (24 * (6 * d + s)) := by rw [ix6]; exact nI_mul 24 _
  have j1 : nI (24 * (6 * d + s)) + 1 = nI (24 * (6 * d + s) + 1) := nI_add _ 1
  have j2 : nI (24 * (6 * d + s)) + 2 = nI (24 * (6 * d + s) + 2) := nI_add _ 2
  have j3 : nI (24 * (6 * d + s)) + 3 = nI (24 * (6 * d + s) + 3) := nI_add _ 3
  have j20 : nI (24 * (6 * d + s)) + 20 = nI (24 * (6 * d + s) + 20) := nI_add _ 20
  unfold wX7_rollBack_106
  rw [i24, i0, i1, j1, j2, j3, j20, nI_clamp (n := d) (by omega), nI_clamp (n := 2 * d) (by omega), nI_clamp (n := 2 * d + 1) (by omega), nI_clamp (n := 24 * (6 * d + s)) (by omega), nI_clamp (n := 24 * (6 * d + s) + 1) (by omega), nI_clamp (n := 24 * (6 * d + s) + 2) (by omega), nI_clamp (n := 24 * (6 * d + s) + 3) (by omega), nI_clamp (n := 24 * (6 * d + s) + 20) (by omega)]
  refine ⟨vp_in_nI (by omega) (by omega), vp_in_nI (by omega) (by omega), vp_in_nI (by omega) (by omega), vp_in_nI (by omega) (by omega), vp_in_nI (by omega) (by omega), vp_in_nI (by omega) (by omega), vp_in_nI (by omega) (by omega), vp_in_nI (by omega) (by omega), vp_in_nI (by omega) (by omega), vp_in_nI (by omega) (by omega), vp_in_nI (by omega) (by omega), 16 + 1, ?_⟩
  have run := ml_r208 (M := M) (ap := ap) (l3 := l3) hd hs hp 16 0 (M 16 23) (M 16 25) (by omega) ⟨fun i hi => absurd hi (Nat.not_lt_zero i), fun j _ => ⟨rfl, rfl⟩⟩
  have e : mP (mS6 M d s) (M 16 23) (M 16 25) = mS6 M d s := by
    unfold mP
    rw [show M 16 23 = (mS6 M d s) 16 23 from rfl, kr_id, show M 16 25 = (mS6 M d s) 16 25 from rfl, kr_id]
  rw [e] at run
  exact run
theorem rS_life (K : KS) (d s x : Nat) : rS K d s 7 1 x = if x = 2 * d + 1 then K 10 1 1 else if x = 2 * d then K 10 1 0 else K 7 1 x := by
  show va_up (va_up (K 7 1) (2 * d) (K 10 1 0)) (2 * d + 1) (K 10 1 1) x = _
  rw [up_if, up_if]
theorem rS_plays (K : KS) (d s x i : Nat) (hi : i < 8) : rS K d s 18 x i = if x = 2 * d then K 10 1 (4 + i) else if x = 2 * d + 1 then K 10 1 (12 + i) else K 18 x i := by
  have e5 : ∀ y, rS5 K d 18 y = if y = 2 * d then va_cpy (K 10 1) (K 18 (2 * d)) 4 0 8 else K 18 y := fun y => by
    show va_up (K 18) (2 * d) (va_cpy (K 10 1) (K 18 (2 * d)) 4 0 8) y = _
    rw [up_if]
  have e6 : rS K d s 18 x = if x = 2 * d + 1 then va_cpy (K 10 1) (rS5 K d 18 (2 * d + 1)) 12 0 8 else rS5 K d 18 x := by
    show va_up (rS5 K d 18) (2 * d + 1) (va_cpy (K 10 1) (rS5 K d 18 (2 * d + 1)) 12 0 8) x = _
    rw [up_if]
  rw [e6]
  by_cases z : x = 2 * d
  · rw [if_neg (by omega), if_pos z, e5, if_pos z]
    unfold va_cpy
    rw [if_pos ⟨by omega, by omega⟩]
    rfl
  · rw [if_neg z]
    by_cases w : x = 2 * d + 1
    · rw [if_pos w, if_pos w]
      unfold va_cpy
      rw [if_pos ⟨by omega, by omega⟩]
      rfl
    · rw [if_neg w, if_neg w, e5, if_neg z]
theorem rS_stack (K : KS) (d s x i : Nat) (hi : i < 8) : rS K d s 17 x i = if x = d then K 20 (6 * d + s) i else K 17 x i := by
  have e : rS K d s 17 x = if x = d then va_cpy (K 20 (6 * d + s)) (K 17 d) 0 0 8 else K 17 x := by
    show va_up (K 17) d (va_cpy (K 20 (6 * d + s)) (K 17 d) 0 0 8) x = _
    rw [up_if]
  rw [e]
  by_cases z : x = d
  · rw [if_pos z, if_pos z]
    unfold va_cpy
    rw [if_pos ⟨by omega, by omega⟩]
    congr 1
    omega
  · rw [if_neg z, if_neg z]
