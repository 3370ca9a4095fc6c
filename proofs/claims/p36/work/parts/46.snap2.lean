/-! snapshot: the reference, the relation, the call -/
def mK (M : KS) (g g2 : Nat → Int32) : KS := kr (kr M 16 27 g) 16 28 g2
theorem mK_27 (M : KS) (g g2 : Nat → Int32) (i : Nat) (v : Int32) : k3 (mK M g g2) 16 27 i v = mK M (va_up g i v) g2 := by
  show kr (kr (kr M 16 27 g) 16 28 g2) 16 27 (va_up g i v) = _
  rw [kr_sw _ g2 _ (by omega), kr_kr]
  rfl
theorem mK_28 (M : KS) (g g2 : Nat → Int32) (i : Nat) (v : Int32) : k3 (mK M g g2) 16 28 i v = mK M g (va_up g2 i v) := by
  show kr (kr (kr M 16 27 g) 16 28 g2) 16 28 (va_up g2 i v) = _
  rw [kr_kr]
  rfl
/-- what the reference's rows hold behind a snapshot -/
def gOK (M : KS) (K : KS) (d s n u : Nat) (g : Nat → Int32) : Prop := (∀ i, i < 24 → i < u → g (24 * (6 * d + s) + i) = nmS K d n i) ∧ ∀ j, (j < 24 * (6 * d + s) ∨ 24 * (6 * d + s) + 24 ≤ j) → g j = M 16 27 j
theorem gOK_step {M K : KS} {d s n u : Nat} {g : Nat → Int32} (hu : u < 24) (h : gOK M K d s n u g) {v : Int32} (hv : v = nmS K d n u) : gOK M K d s n (u + 1) (va_up g (24 * (6 * d + s) + u) v) := by
  refine ⟨fun i hi hiu => ?_, fun j hj => ?_⟩
  · rw [up_if]
    by_cases z : i = u
    · rw [if_pos (by omega), hv, z]
    · rw [if_neg (by omega)]
      exact h.1 i hi (by omega)
  · rw [up_if, if_neg (by omega)]
    exact h.2 j hj
theorem rr_snap {t np nc nd no ns P r : Nat} {cn sn dp ew go bl sl : Nat → Nat} {sk : Nat → Nat → Nat} {K M : KS} {ap : Int64} {d : Nat} {bl2 : Nat → Nat} {f k2 ks gg g gw : Nat → Int32} (h : RR t t np nc nd no ns P r cn sn dp ew ew go bl sl sk K M ap) (hd : d < nd) (hw : ew d = 0) (hgo : go d = 1) (hs : sn d < 6) (hg : gOK M K d (sn d) (dp d) 24 g) (hg2 : ∀ i, i < 16 → gw (16 * (6 * d + sn d) + i) = M 16 25 (16 * d + i)) (hg3 : ∀ j, (j < 16 * (6 * d + sn d) ∨ 16 * (6 * d + sn d) + 16 ≤ j) → gw j = M 16 28 j) (hB : BS (pI sn (36 * d + 6 * sn d) 6) bl2 k2 ks ((kB (kr K 10 1 f) (6 * d + sn d) k2 ks gg) 19) g) : RR (t+1) (t+1) np nc nd no ns P r cn (va_up sn d (sn d + 1)) dp ew ew go bl2 sl sk (k3 (kr (kB (kr K 10 1 f) (6 * d + sn d) k2 ks gg) 20 (6 * d + sn d) (va_cpy (K 17 d) (K 20 (6 * d + sn d)) 0 0 8)) 6 8 d (nI (sn d + 1))) (k3 (mK (k3 M 3 0 0 0) g gw) 16 26 d (nI (sn d + 1))) ap := by
  have hx := rr_up (Nat.le_succ t) (Nat.le_succ t) h
  obtain ⟨np1, np2, np3, nc1, nc2, nc3, nc4, nd1, nd2, nd3, nd4, no1, no2, no3, no4, ns1, ns2, ns3, lc0, lc1, lc2, lc3, l0, l1, l2, pl, sd, hs_, av, ab, c0, c1, c2, c3, c4, c6, c7, g1, g2, g3, g4, g5, g6, g7, g8, g9, d1, d2, d3, d4, d5, d6, dt, d7, d8, d9, d10, d11, d12, d13, d14, z0, n1, n0, n2, n5, n6, o1, o2, o3, o4, o5, o6, o7, ow, o8, o9⟩ := hx
  obtain ⟨v1, v2, v3, v4⟩ := d10 d hd
  have hsn : ∀ x, va_up sn d (sn d + 1) x = if x = d then sn d + 1 else sn x := fun _ => rfl
  unfold RR
  refine ⟨np1, np2, np3, nc1, nc2, nc3, nc4, nd1, nd2, nd3, nd4, no1, no2, no3, no4, ns1, ns2, ns3, lc0, lc1, lc2, lc3, l0, l1, l2, pl, sd, hs_, av, ab, c0, c1, c2, c3, c4, c6, c7, g1, g2, g3, g4, g5, g6, g7, g8, g9, d1, d2, d3, d4, d5, d6, dt, d7, d8, d9, d10, d11, d12, d13, d14, z0, ?q_n1, ?q_n0, ?q_n2, ?q_n5, ?q_n6, o1, o2, o3, o4, o5, o6, o7, ow, o8, o9⟩
  case q_n1 =>
    intro e he
    obtain ⟨a1, a2, a3, a4⟩ := n1 e he
    show va_up (M 16 26) d (nI (sn d + 1)) e = _ ∧ _
    rw [up_if, hsn]
    by_cases z : e = d
    · rw [if_pos z, if_pos z]
      exact ⟨rfl, by omega, fun w => by omega, fun w => by rw [z] at w; omega⟩
    · rw [if_neg z, if_neg z]
      exact ⟨a1, a2, a3, a4⟩
  case q_n0 =>
    intro e he
    show va_up (K 6 8) d (nI (sn d + 1)) e = _
    rw [up_if, hsn]
    by_cases z : e = d
    · rw [if_pos z, if_pos z]
    · rw [if_neg z, if_neg z]
      exact n0 e he
  case q_n2 =>
    refine BS_cong (fun R hR => ?_) hB
    unfold pI kpB
    rw [hsn]
    by_cases z : R / 36 = d
    · rw [if_pos z, z]
      by_cases w : R / 6 % 6 < sn d
      · rw [decide_eq_true w, decide_eq_true (p := R / 6 % 6 < sn d + 1) (by omega)]
        rfl
      · rw [decide_eq_false w, Bool.false_or]
        exact decide_eq_decide.mpr ⟨fun u => by omega, fun u => by omega⟩
    · rw [if_neg z, decide_eq_false (p := 36 * d + 6 * sn d ≤ R ∧ R < 36 * d + 6 * sn d + 6) (by omega), Bool.or_false]
  case q_n5 =>
    intro e he s hs2 i hi
    show kr (kB (kr K 10 1 f) (6 * d + sn d) k2 ks gg) 20 (6 * d + sn d) (va_cpy (K 17 d) (K 20 (6 * d + sn d)) 0 0 8) 20 (6 * e + s) i = gw (16 * (6 * e + s) + i)
    have hse := (n1 e (by omega)).2.1
    rw [hsn] at hs2
    by_cases z : e = d ∧ s = sn d
    · obtain ⟨z1, z2⟩ := z
      rw [z1, z2, kr_s, hg2 i (by omega)]
      unfold va_cpy
      rw [if_pos ⟨by omega, by omega⟩, show 0 + (i - 0) = i by omega]
      exact (d11 d hd i hi).1
    · have hs3 : s < sn e := by
        by_cases w : e = d
        · rw [if_pos w] at hs2
          rw [w]
          have : s ≠ sn d := fun u => z ⟨w, u⟩
          omega
        · rw [if_neg w] at hs2
          exact hs2
      have hne : 6 * e + s ≠ 6 * d + sn d := fun u => z (by
        have : e = d := by omega
        exact ⟨this, by omega⟩)
      rw [kr_b _ _ hne, hg3 _ (by omega)]
      exact n5 e he s hs3 i hi
  case q_n6 =>
    intro e he s hs2
    have hse := (n1 e (by omega)).2.1
    rw [hsn] at hs2
    show KV (t + 1) (cn (2 * e)) (cn (2 * e + 1)) (fun i => g (24 * (6 * e + s) + i)) (fun i => gw (16 * (6 * e + s) + i))
    by_cases z : e = d ∧ s = sn d
    · obtain ⟨z1, z2⟩ := z
      rw [z1, z2]
      obtain ⟨l1_, l2_, _⟩ := d5 d hd hw
      obtain ⟨τ, t1, t2, t3, t4⟩ := d6 d hd hw
      have e0 : ∀ i, i < 24 → g (24 * (6 * d + sn d) + i) = nmS K d (dp d) i := fun i hi => hg.1 i hi hi
      have ep : ∀ i, i < 8 → nmS K d (dp d) (4 + i) = K 18 (2 * d) i := fun i hi => by
        unfold nmS
        rw [if_neg (by omega), if_neg (by omega), if_neg (by omega), if_neg (by omega), if_pos (by omega), show 4 + i - 4 = i by omega]
      have ep2 : ∀ i, i < 8 → nmS K d (dp d) (12 + i) = K 18 (2 * d + 1) i := fun i hi => by
        unfold nmS
        rw [if_neg (by omega), if_neg (by omega), if_neg (by omega), if_neg (by omega), if_neg (by omega), if_pos (by omega), show 12 + i - 12 = i by omega]
      refine ⟨?_, ?_, ⟨τ, dp d, by omega, ?_, ?_, v3, ?_, ?_⟩, ?_, ?_, ?_⟩
      · show lifeOK (g (24 * (6 * d + sn d) + 0))
        rw [e0 0 (by omega)]
        exact l1_
      · show lifeOK (g (24 * (6 * d + sn d) + 1))
        rw [e0 1 (by omega)]
        exact l2_
      · show g (24 * (6 * d + sn d) + 3) = _
        rw [e0 3 (by omega)]
        exact t2
      · show g (24 * (6 * d + sn d) + 20) = _
        rw [e0 20 (by omega)]
        rfl
      · rw [cntE_cong (g := K 18 (2 * d + τ % 2)) (w := 1) (fun i hi => by
          show g (24 * (6 * d + sn d) + (4 + 8 * (τ % 2) + i)) = 1 ↔ _
          rw [e0 _ (by omega)]
          rcases (by omega : τ % 2 = 0 ∨ τ % 2 = 1) with w | w
          · rw [w, show 4 + 8 * 0 + i = 4 + i by omega, ep i hi]
            rfl
          · rw [w, show 4 + 8 * 1 + i = 12 + i by omega, ep2 i hi])]
        exact t4
      · intro i hi
        show okE (gw (16 * (6 * d + sn d) + i))
        rw [hg2 i (by omega), ← (d11 d hd i (by omega)).1]
        exact (d11 d hd i (by omega)).2 hi
      · intro i hi
        show g (24 * (6 * d + sn d) + (4 + i)) = 0 ∨ g (24 * (6 * d + sn d) + (4 + i)) = 1
        rw [e0 _ (by omega)]
        rcases (by omega : i < 8 ∨ 8 ≤ i) with w | w
        · rw [ep i w]
          exact (d9 (2 * d) (by omega) i w).1
        · rw [show 4 + i = 12 + (i - 8) by omega, ep2 (i - 8) (by omega)]
          exact (d9 (2 * d + 1) (by omega) (i - 8) (by omega)).1
      · intro i hi hc
        show g (24 * (6 * d + sn d) + (4 + i)) = 0
        rw [e0 _ (by omega), ep i hi]
        exact (d9 (2 * d) (by omega) i hi).2.2 hc
      · intro i hi hc
        show g (24 * (6 * d + sn d) + (12 + i)) = 0
        rw [e0 _ (by omega), ep2 i hi]
        exact (d9 (2 * d + 1) (by omega) i hi).2.2 hc
    · have hs3 : s < sn e := by
        by_cases w : e = d
        · rw [if_pos w] at hs2
          rw [w]
          have : s ≠ sn d := fun u => z ⟨w, u⟩
          omega
        · rw [if_neg w] at hs2
          exact hs2
      have hne : 6 * e + s ≠ 6 * d + sn d := fun u => z (by
        have : e = d := by omega
        exact ⟨this, by omega⟩)
      have hk := n6 e he s hs3
      have e1 : ∀ i, i < 24 → g (24 * (6 * e + s) + i) = M 16 27 (24 * (6 * e + s) + i) := fun i hi => hg.2 _ (by omega)
      have e2 : ∀ i, i < 16 → gw (16 * (6 * e + s) + i) = M 16 28 (16 * (6 * e + s) + i) := fun i hi => hg3 _ (by omega)
      obtain ⟨a1, a2, ⟨τ, dq, b1, b2, b3, b4, b5, b6⟩, a4, a5, a6⟩ := hk
      refine ⟨?_, ?_, ⟨τ, dq, b1, ?_, ?_, b4, ?_, ?_⟩, ?_, ?_, ?_⟩
      · show lifeOK (g (24 * (6 * e + s) + 0))
        rw [e1 0 (by omega)]
        exact a1
      · show lifeOK (g (24 * (6 * e + s) + 1))
        rw [e1 1 (by omega)]
        exact a2
      · show g (24 * (6 * e + s) + 3) = _
        rw [e1 3 (by omega)]
        exact b2
      · show g (24 * (6 * e + s) + 20) = _
        rw [e1 20 (by omega)]
        exact b3
      · rw [cntE_cong (g := fun i => M 16 27 (24 * (6 * e + s) + (4 + 8 * (τ % 2) + i))) (w := 1) (fun i hi => by
          show g (24 * (6 * e + s) + (4 + 8 * (τ % 2) + i)) = 1 ↔ _
          rw [e1 _ (by omega)])]
        exact b5
      · intro i hi
        show okE (gw (16 * (6 * e + s) + i))
        rw [e2 i (by omega)]
        exact b6 i hi
      · intro i hi
        show g (24 * (6 * e + s) + (4 + i)) = 0 ∨ g (24 * (6 * e + s) + (4 + i)) = 1
        rw [e1 _ (by omega)]
        exact a4 i hi
      · intro i hi hc
        show g (24 * (6 * e + s) + (4 + i)) = 0
        rw [e1 _ (by omega)]
        exact a5 i hi hc
      · intro i hi hc
        show g (24 * (6 * e + s) + (12 + i)) = 0
        rw [e1 _ (by omega)]
        exact a6 i hi hc

