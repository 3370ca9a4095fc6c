/-! More calls that only read. -/
theorem nI_inN {n : Nat} {p1 : Int32} (hn : n < 2 ^ 31) (h0 : 0 ≤ p1) (h1 : p1 < nI n) : ∃ j : Nat, j < n ∧ p1 = nI j := by
  obtain ⟨j, hj, rfl⟩ := nI_of (Int32.not_lt.mpr h0)
  exact ⟨j, (nI_ltI hj hn).mp h1, rfl⟩
/-- a number kept with a snapshot, out of the blocks -/
theorem kn_ok {post : Int32 → Prop} {K : KS} {nd d s i : Nat} {bl sn : Nat → Nat} {f : Nat → Int32} (hD : nD K = nd) (hd : d < nd) (hnd : nd ≤ 8) (hs : s < 6) (hi : i < 24) (hn : K 19 ((36 * d + 6 * s + i / 4) / 6) ((36 * d + 6 * s + i / 4) % 6) = nI (bl (36 * d + 6 * s + i / 4)) ∧ bl (36 * d + 6 * s + i / 4) < 288 ∧ ∀ j, j < 4 → K 10 2 (4 * bl (36 * d + 6 * s + i / 4) + j) = f (4 * (36 * d + 6 * s + i / 4) + j)) (hp : post (f (24 * (6 * d + s) + i))) : wpX2_keptNumber post K d (nI s) (nI i) := by
  obtain ⟨a1, a2, a3⟩ := hn
  have e1 : (36 * d + 6 * s + i / 4) / 6 = 6 * d + s := by omega
  have e2 : (36 * d + 6 * s + i / 4) % 6 = i / 4 := by omega
  have q1 : nI i / 4 = nI (i / 4) := pk_div (a := i) (d := 4) (by omega) (by omega) (by omega)
  have q2 : nI i - nI i / 4 * 4 = nI (i % 4) := pk_rem (a := i) (d := 4) (by omega) (by omega) (by omega)
  have a4 := a3 (i % 4) (by omega)
  rw [show 4 * (36 * d + 6 * s + i / 4) + i % 4 = 24 * (6 * d + s) + i by omega] at a4
  rw [e1, e2] at a1
  unfold wpX2_keptNumber
  refine ⟨fun c => absurd c (nI_pos (by omega)), fun _ => ⟨fun c => absurd c (nI_ge (a := s) (b := 6) hs (by omega)), fun _ => ⟨fun c => absurd c (nI_pos (by omega)), fun _ => ⟨fun _ => ?_, fun c => absurd (nI_lt (b := 24) hi (by omega)) c⟩⟩⟩⟩
  rw [q2, q1, nI_clamp (by omega), nI_clamp (by omega), a1]
  refine ⟨by rw [hD]; exact hd, vp_in_nI hs (by omega), vp_in_nI (by omega) (by omega), ?_⟩
  intro x hx
  subst hx
  have q3 : nI (bl (36 * d + 6 * s + i / 4)) * 4 + nI (i % 4) = nI (4 * bl (36 * d + 6 * s + i / 4) + i % 4) := by
    rw [← nI_add, ← nI_mul, Int32.mul_comm]
    rfl
  unfold wpX0_numberIn
  rw [q3, nI_clamp (by omega), a4]
  exact ⟨fun c => absurd c (nI_pos (by omega)), fun _ => ⟨fun c => absurd c (nI_ge (by omega) (by omega)), fun _ => ⟨vp_in_nI (by omega) (by omega), hp⟩⟩⟩
theorem cs_sum {post : Int32 → Prop} {K : KS} {np : Nat} {b : Int32} (h : K 0 1 0 = nI np) (hn : np ≤ 6) (he : b + sumI (K 10 0) np = K 0 2 0) (hp : post 1) : ∀ r i, i + r = np → wX6_isSound_63 post (r + 1) (b + sumI (K 10 0) i) (nI i) K := by
  intro r
  induction r with
  | zero =>
    intro i hi
    have : i = np := by omega
    subst this
    unfold wX6_isSound_63
    exact ⟨fun _ => ⟨fun c => absurd he c, fun _ => hp⟩, fun c => absurd (by rw [h]; exact nI_le (Nat.le_refl i) (by omega)) c⟩
  | succ r ih =>
    intro i hi
    unfold wX6_isSound_63
    refine ⟨fun c => absurd (by rw [← h]; exact c) (nI_ge (a := i) (b := np) (by omega) (by omega)), fun _ => ⟨vp_in_nI (by omega) (by omega), ?_⟩⟩
    intro x hx
    subst hx
    rw [nI_clamp (by omega), Int32.add_assoc, nI_1]
    exact ih (i + 1) (by omega)
theorem cs_cards {post : Int32 → Prop} {K : KS} {nc P r : Nat} (h1 : K 8 2 0 = nI nc) (h2 : nC K = nc) (h3 : lcp (K 8 3 0) nc) (h4 : nc ≤ 40) (h5 : ∀ j, j < nc → K 9 0 j = nI j) (h6 : ∀ j, j < nc → K 4 0 j = nI j) (g1 : K 1 1 0 = nI P) (g3 : K 1 5 0 = nI r) (hr : r ≤ 13824) (g5 : 3 * P ≤ r) (g7 : ∀ c, c < nc → lastH (K 11 0) (nI c) P = K 4 2 c) (hp : ∃ n1, wX6_isSound_63 post n1 (K 0 3 0 + K 0 4 0) 0 K) : ∀ r i, i + r = nc → wX6_isSound_2 post (r + 1) (nI i) K := by
  intro q
  induction q with
  | zero =>
    intro i hi
    unfold wX6_isSound_2
    exact ⟨fun _ => hp, fun c => absurd (by rw [h1]; exact nI_le (by omega) (by omega)) c⟩
  | succ q ih =>
    intro i hi
    have e : (K 9 0 (nI i).toNatClampNeg).toNatClampNeg = i := by rw [nI_clamp (by omega), h5 i (by omega), nI_clamp (by omega)]
    unfold wX6_isSound_2
    rw [e, h6 i (by omega), nI_1]
    refine ⟨fun c => absurd (by rw [← h1]; exact c) (nI_ge (a := i) (b := nc) (by omega) (by omega)), fun _ => ⟨ok_get h1 h3 (by omega) (by omega), by rw [h2]; omega, ?_⟩⟩
    unfold wpX3_lastHolder
    refine ⟨P + 1, ?_⟩
    rw [g1]
    refine cl_last g3 hr g5 P (Nat.le_refl P) ?_
    rw [g7 i (by omega)]
    exact ⟨fun _ => ih (i + 1) (by omega), fun c => absurd rfl c⟩
