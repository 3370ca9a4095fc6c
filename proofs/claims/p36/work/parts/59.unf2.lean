/-! Facts of undoing, from the relation. -/
def rv (sl : Nat → Nat) (ns : Nat) : Nat → Nat := fun j => sl (ns - 1 - j)
def xF (cn : Nat → Nat) (sk : Nat → Nat → Nat) (d : Nat) (w0 w1 : Int32) (x : LXp) : LXp := hF (sk (2 * d + 1)) w1 0 (cn (2 * d + 1)) (hF (sk (2 * d)) w0 0 (cn (2 * d)) x)
theorem xF_facts {cn : Nat → Nat} {sk : Nat → Nat → Nat} {d : Nat} {w w0 w1 : Int32} {X : LXp} (h0 : w0 ≠ -1) (h1 : w1 ≠ -1) (hw : w = -1 ∨ w = w0 ∨ w = w1) (hd14 : ∀ s s2, (s = 2 * d ∨ s = 2 * d + 1) → (s2 = 2 * d ∨ s2 = 2 * d + 1) → ∀ i j, i < cn s → j < cn s2 → sk s i = sk s2 j → s = s2 ∧ i = j) (hX0 : ∀ i, i < cn (2 * d) → X.2.2 (sk (2 * d) i) = if w = -1 then w0 else w) (hX1 : ∀ i, i < cn (2 * d + 1) → X.2.2 (sk (2 * d + 1) i) = if w = -1 then w1 else w) : (∃ s, (s = 2 * d ∨ s = 2 * d + 1) ∧ (xF cn sk d w0 w1 X).1 ≤ X.1 + cn s) ∧ (∀ i, i < cn (2 * d) → (xF cn sk d w0 w1 X).2.2 (sk (2 * d) i) = w0) ∧ (∀ i, i < cn (2 * d + 1) → (xF cn sk d w0 w1 X).2.2 (sk (2 * d + 1) i) = w1) ∧ (∀ c, (∀ s, (s = 2 * d ∨ s = 2 * d + 1) → ∀ i, i < cn s → sk s i ≠ c) → (xF cn sk d w0 w1 X).2.2 c = X.2.2 c) := by
  have dis : ∀ i j, i < cn (2 * d) → j < cn (2 * d + 1) → sk (2 * d + 1) j ≠ sk (2 * d) i := fun i j hi hj q => by
    have := (hd14 (2 * d + 1) (2 * d) (Or.inr rfl) (Or.inl rfl) j i hj hi q).1
    omega
  unfold xF
  refine ⟨?_, fun i hi => ?_, fun i hi => ?_, fun c hc => ?_⟩
  · by_cases a : w = -1 ∨ w = w0
    · have e : hF (sk (2 * d)) w0 0 (cn (2 * d)) X = X := hF_id _ _ _ (fun j _ hj => by
        rw [hX0 j (by omega)]
        by_cases z : w = -1
        · rw [if_pos z]
        · rw [if_neg z]
          exact a.resolve_left z)
      rw [e]
      exact ⟨2 * d + 1, Or.inr rfl, hF_le _ _ _⟩
    · have w1e : w = w1 := by
        rcases hw with z | z | z
        · exact absurd (Or.inl z) a
        · exact absurd (Or.inr z) a
        · exact z
      have e : hF (sk (2 * d + 1)) w1 0 (cn (2 * d + 1)) (hF (sk (2 * d)) w0 0 (cn (2 * d)) X) = hF (sk (2 * d)) w0 0 (cn (2 * d)) X := hF_id _ _ _ (fun j _ hj => by
        rw [hF_out _ _ _ _ (fun i _ hi z => dis i j (by omega) (by omega) z.symm), hX1 j (by omega), if_neg (fun z => a (Or.inl z))]
        exact w1e)
      rw [e]
      exact ⟨2 * d, Or.inl rfl, hF_le _ _ _⟩
  · rw [hF_out _ _ _ _ (fun j _ hj => dis i j hi (by omega))]
    exact hF_in h0 _ _ _ _ ⟨i, by omega, by omega, rfl⟩
  · exact hF_in h1 _ _ _ _ ⟨i, by omega, by omega, rfl⟩
  · rw [hF_out _ _ _ _ (fun j _ hj => hc (2 * d + 1) (Or.inr rfl) j (by omega)), hF_out _ _ _ _ (fun j _ hj => hc (2 * d) (Or.inl rfl) j (by omega))]
theorem un_base {t e np nc nd no ns P r : Nat} {cn sn dp ew ev go bl sl : Nat → Nat} {sk : Nat → Nat → Nat} {K M : KS} {ap : Int64} {d : Nat} (h : RR t e np nc nd no ns P r cn sn dp ew ev go bl sl sk K M ap) (hd : d < nd) : (∀ j, j < ns → rv sl ns j < no ∧ M 16 36 (rv sl ns j) = nI (ns - 1 - j) ∧ K 9 3 (ns - 1 - j) = nI (rv sl ns j)) ∧ (∀ i j, i < ns → j < ns → rv sl ns i = rv sl ns j → i = j) ∧ (∀ k, k < no → K 5 5 k = nI d → ∃ j, j < ns ∧ rv sl ns j = k) ∧ (∀ k, k < no → K 5 5 k = nI d → K 5 4 k = 98 ∧ K 5 3 k ≠ K 5 2 k ∧ K 5 2 k ≠ -1 ∧ M 16 34 k = K 5 3 k ∧ ∃ q, q < np ∧ K 5 3 k = nI q) ∧ (∀ k, k < no → K 5 5 k = nI d → ∃ c, c < nc ∧ K 5 0 k = nI c ∧ K 4 5 c = nI d) ∧ (∀ k, k < no → ((M 13 32 k = 98 ∧ M 16 35 k = nI d) ↔ K 5 5 k = nI d)) := by
  have o3 := rx_o3 h
  have o4 := rx_o4 h
  have o5 := rx_o5 h
  have o6 := rx_o6 h
  have o8 := rx_o8 h
  have no4 := rx_no4 h
  have ns3 := rx_ns3 h
  have np3 := rx_np3 h
  have nd4 := rx_nd4 h
  have a : ∀ j, j < ns → rv sl ns j < no ∧ M 16 36 (rv sl ns j) = nI (ns - 1 - j) ∧ K 9 3 (ns - 1 - j) = nI (rv sl ns j) := fun j hj => by
    obtain ⟨b1, b2, b3, _⟩ := o8 (ns - 1 - j) (by omega)
    exact ⟨b2, b3, b1⟩
  have f98 : ∀ k, k < no → K 5 5 k = nI d → K 5 4 k = 98 ∧ ∃ c, c < nc ∧ K 5 0 k = nI c ∧ K 4 5 c = nI d := fun k hk q => by
    rcases o6 k hk with z | ⟨z1, d2, z2, z3, z4, c, z5, z6, z7⟩
    · rw [z] at q
      exact absurd q.symm (nI_neg1 (by omega))
    · exact ⟨z1, c, z5, z6, by rw [z7, ← z3]; exact q⟩
  refine ⟨a, fun i j hi hj q => ?_, fun k hk q => ?_, fun k hk q => ?_, fun k hk q => (f98 k hk q).2, fun k hk => ⟨fun w => ?_, fun w => ?_⟩⟩
  · have w1 := (a i hi).2.1
    have w2 := (a j hj).2.1
    rw [q] at w1
    have := (nI_eq (by omega) (by omega)).mp (w1.symm.trans w2)
    omega
  · obtain ⟨_, _, _, _, j, j1, j2⟩ := o5 k hk (f98 k hk q).1
    refine ⟨ns - 1 - j, by omega, ?_⟩
    unfold rv
    rw [show ns - 1 - (ns - 1 - j) = j by omega]
    exact j2
  · obtain ⟨b1, b2, b3, _⟩ := o5 k hk (f98 k hk q).1
    obtain ⟨_, p, p1, p2⟩ := o4 k hk
    exact ⟨(f98 k hk q).1, b2, by rw [p2]; exact nI_neg1 (by omega), b1.symm, b3⟩
  · have e : K 5 4 k = 98 := by rw [(o3 k hk).1]; exact w.1
    rw [(o5 k hk e).2.2.2.1]
    exact w.2
  · have e := (f98 k hk w).1
    exact ⟨by rw [← (o3 k hk).1]; exact e, by rw [← (o5 k hk e).2.2.2.1]; exact w⟩
theorem un_facts {t e np nc nd no ns P r : Nat} {cn sn dp ew ev go bl sl : Nat → Nat} {sk : Nat → Nat → Nat} {K M : KS} {ap : Int64} {d : Nat} (h : RR t e np nc nd no ns P r cn sn dp ew ev go bl sl sk K M ap) (hd : d < nd) (hw : ew d = 1) (hev : ev d ≠ 0) : (∀ j, j < ns → K 5 5 (rv sl ns j) = nI d → (uX K d (rv sl ns) (P, K 11 0, K 4 2) j).2.2 (K 5 0 (rv sl ns j)).toNatClampNeg = K 5 3 (rv sl ns j)) ∧ (∀ c, ¬ K 4 5 c = nI d → (xF cn sk d (K 7 0 (2 * d)) (K 7 0 (2 * d + 1)) (uX K d (rv sl ns) (P, K 11 0, K 4 2) ns)).2.2 c = K 4 2 c) ∧ (∀ s, (s = 2 * d ∨ s = 2 * d + 1) → ∀ i, i < cn s → (xF cn sk d (K 7 0 (2 * d)) (K 7 0 (2 * d + 1)) (uX K d (rv sl ns) (P, K 11 0, K 4 2) ns)).2.2 (sk s i) = K 7 0 s) ∧ (∃ s, (s = 2 * d ∨ s = 2 * d + 1) ∧ (xF cn sk d (K 7 0 (2 * d)) (K 7 0 (2 * d + 1)) (uX K d (rv sl ns) (P, K 11 0, K 4 2) ns)).1 + cntE (sF K d (rv sl ns) ns) 98 no ≤ P + cntE (K 5 4) 98 no + cn s) ∧ (xF cn sk d (K 7 0 (2 * d)) (K 7 0 (2 * d + 1)) (uX K d (rv sl ns) (P, K 11 0, K 4 2) ns)).1 ≤ P + 68 := by
  obtain ⟨u1, u2, u3, u4, u5, u6⟩ := un_base h hd
  have o8 := rx_o8 h
  have o9 := rx_o9 h d hd hw
  have d4 := (rx_d4 h d hd hev).2
  have d7 := rx_d7 h
  have d12 := rx_d12 h d hd (by omega)
  have d14 := rx_d14 h d hd
  have np3 := rx_np3 h
  have nc4 := rx_nc4 h
  have no4 := rx_no4 h
  have ns3 := rx_ns3 h
  obtain ⟨_, _, pa, pb, pa1, pb1, _, p7, p8⟩ := rx_d1 h d hd
  obtain ⟨c1_, c2_⟩ := uX_ch (K := K) (d := d) (ns := ns) (no := no) (sl := sl) (x := (P, K 11 0, K 4 2)) (fun j hj => (o8 j hj).2.1) (fun k hk q => ⟨(u4 k hk q).2.1, (u4 k hk q).2.2.1⟩) ns 0 (by omega) o9
  have c2' : ChB cn sk (K 6 3) (K 7 0) d (uX K d (rv sl ns) (P, K 11 0, K 4 2) ns).2.2 := c2_
  have out : ∀ c, ¬ K 4 5 c = nI d → (uX K d (rv sl ns) (P, K 11 0, K 4 2) ns).2.2 c = K 4 2 c := fun c q => uX_out (fun j hj z e => by
    obtain ⟨c3_, y1, y2, y3⟩ := u5 _ (u1 j hj).1 z
    rw [y2, nI_clamp (by omega)] at e
    exact q (by rw [← e]; exact y3)) ns (Nat.le_refl ns)
  obtain ⟨x1, x2, x3, x4⟩ := xF_facts (cn := cn) (sk := sk) (d := d) (w := K 6 3 d) (w0 := K 7 0 (2 * d)) (w1 := K 7 0 (2 * d + 1)) (X := uX K d (rv sl ns) (P, K 11 0, K 4 2) ns) (by rw [p7]; exact nI_neg1 (by omega)) (by rw [p8]; exact nI_neg1 (by omega)) d4 d14 (fun i hi => c2' (2 * d) (Or.inl rfl) i hi) (fun i hi => c2' (2 * d + 1) (Or.inr rfl) i hi)
  have ul := uX_le K d (rv sl ns) (P, K 11 0, K 4 2) ns
  have ul2 : (uX K d (rv sl ns) (P, K 11 0, K 4 2) ns).1 ≤ P + uN K d (rv sl ns) ns := ul
  have un := uN_le K d (rv sl ns) ns
  have cu := cnt_undo (K := K) (d := d) (no := no) (ns := ns) (sl := rv sl ns) (fun j hj => (u1 j hj).1) u2 (fun k hk q => (u4 k hk q).1) ns (Nat.le_refl ns)
  refine ⟨fun j hj q => c1_ j (by omega) hj q, fun c q => ?_, fun s hs i hi => ?_, ?_, ?_⟩
  · rw [x4 c (fun s hs i hi e => q (by rw [← e]; exact d12 s hs i hi))]
    exact out c q
  · rcases hs with hs | hs
    · subst hs
      exact x2 i hi
    · subst hs
      exact x3 i hi
  · obtain ⟨s, s1, s2⟩ := x1
    exact ⟨s, s1, by omega⟩
  · obtain ⟨s, s1, s2⟩ := x1
    have := (d7 s (by omega)).2.2.1
    omega

