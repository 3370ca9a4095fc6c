/-! The relation behind phase 2. -/
theorem rr_resume {t e np nc nd no ns P r : Nat} {cn sn dp ew ev go bl sl : Nat → Nat} {sk : Nat → Nat → Nat} {K M : KS} {ap : Int64} {d s : Nat} {ks f gx gy : Nat → Int32} (h : RR t e np nc nd no ns P r cn sn dp ew ev go bl sl sk K M ap) (hd : d < nd) (hw : ew d = 0) (hgo : go d = 1) (hs : s < sn d) (hB : BS (kpB (va_up sn d (s + 1))) bl (K 10 2) ks (K 19) (M 16 27)) (hf : ∀ i, i < 24 → f i = M 16 27 (24 * (6 * d + s) + i)) (hg : gR M d s 16 gx gy) : ∃ dq : Nat, RR t e np nc nd no ns P r cn (va_up sn d (s + 1)) (va_up dp d dq) ew (va_up ev d 0) go bl sl sk (rS (kr (k3 (kr K 10 3 ks) 6 8 d (nI (s + 1))) 10 1 f) d s) (k3 (mP (mS6 M d s) gx gy) 16 26 d (nI (s + 1))) ap := by
  have hx := h
  obtain ⟨np1, np2, np3, nc1, nc2, nc3, nc4, nd1, nd2, nd3, nd4, no1, no2, no3, no4, ns1, ns2, ns3, lc0, lc1, lc2, lc3, l0, l1, l2, pl, sd, hs_, av, ab, c0, c1, c2, c3, c4, c6, c7, g1, g2, g3, g4, g5, g6, g7, g8, g9, d1, d2, d3, d4, d5, d6, dt, d7, d8, d9, d10, d11, d12, d13, d14, z0, n1, n0, n2, n5, n6, o1, o2, o3, o4, o5, o6, o7, ow, o8, o9⟩ := hx
  obtain ⟨k1, k2, ⟨τ, dq, k3a, k4, k5, k6, k7, k8⟩, k9, k10, k11⟩ := n6 d hd s hs
  have k4' : M 16 27 (24 * (6 * d + s) + 3) = nI τ := k4
  have k5' : M 16 27 (24 * (6 * d + s) + 20) = nI dq := k5
  have hs6 := (n1 d (by omega)).2.1
  have hev : ∀ x, va_up ev d 0 x = if x = d then 0 else ev x := fun _ => rfl
  have hsn : ∀ x, va_up sn d (s + 1) x = if x = d then s + 1 else sn x := fun _ => rfl
  have hdp : ∀ x, va_up dp d dq x = if x = d then dq else dp x := fun _ => rfl
  refine ⟨dq, ?_⟩
  unfold RR
  refine ⟨np1, np2, np3, nc1, nc2, nc3, nc4, nd1, nd2, nd3, nd4, no1, no2, no3, no4, ns1, ns2, ns3, lc0, lc1, lc2, lc3, l0, l1, l2, pl, sd, hs_, av, ab, c0, c1, c2, c3, c4, c6, c7, g1, g2, g3, g4, g5, g6, g7, g8, g9, d1, ?q_d2, ?q_d3, ?q_d4, ?q_d5, ?q_d6, ?q_dt, d7, d8, ?q_d9, ?q_d10, ?q_d11, d12, d13, d14, ?q_z0, ?q_n1, ?q_n0, ?q_n2, ?q_n5, ?q_n6, o1, o2, o3, o4, o5, o6, o7, ow, o8, ?q_o9⟩
  case q_d2 =>
    intro e he
    show va_up (K 6 2) d 103 e = va_up (M 13 16) d 103 e ∧ va_up (K 6 2) d 103 e = _ ∧ _
    rw [up_if, up_if, hev]
    by_cases z : e = d
    · rw [if_pos z, if_pos z, if_pos z, z, hgo]
      exact ⟨rfl, rfl, by omega, by omega, fun _ => rfl⟩
    · rw [if_neg z, if_neg z, if_neg z]
      exact d2 e he
  case q_d3 =>
    intro x hx2
    rw [rS_life]
    show _ = va_up (va_up (M 16 18) (2 * d) (M 16 27 (24 * (6 * d + s)))) (2 * d + 1) (M 16 27 (24 * (6 * d + s) + 1)) x
    rw [up_if, up_if]
    by_cases z : x = 2 * d + 1
    · rw [if_pos z, if_pos z]
      exact hf 1 (by omega)
    · rw [if_neg z, if_neg z]
      by_cases w : x = 2 * d
      · rw [if_pos w, if_pos w]
        exact hf 0 (by omega)
      · rw [if_neg w, if_neg w]
        exact d3 x hx2
  case q_d4 =>
    intro e he q
    rw [hev] at q
    by_cases z : e = d
    · rw [if_pos z] at q
      exact absurd rfl q
    · rw [if_neg z] at q
      have e3 : (rS (kr (k3 (kr K 10 3 ks) 6 8 d (nI (s + 1))) 10 1 f) d s) 6 3 e = K 6 3 e := by
        show va_up (K 6 3) d (-1) e = _
        rw [up_if, if_neg z]
      rw [e3]
      exact d4 e he q
  case q_d5 =>
    intro e he q
    rw [rS_life, rS_life]
    show lifeOK _ ∧ lifeOK _ ∧ (go e = 1 → va_up (K 6 4) d (f 2) e = va_up (M 16 19) d (M 16 27 (24 * (6 * d + s) + 2)) e)
    rw [up_if, up_if]
    by_cases z : e = d
    · rw [if_neg (by omega), if_pos (by omega), if_pos (by omega), if_pos z, if_pos z]
      refine ⟨?_, ?_, fun _ => hf 2 (by omega)⟩
      · show lifeOK (f 0)
        rw [hf 0 (by omega)]
        exact k1
      · show lifeOK (f 1)
        rw [hf 1 (by omega)]
        exact k2
    · rw [hev, if_neg z] at q
      rw [if_neg (by omega), if_neg (by omega), if_neg (by omega), if_neg (by omega), if_neg z, if_neg z]
      exact d5 e he q
  case q_d6 =>
    intro e he q
    show ∃ τ, τ ≤ t ∧ va_up (K 6 5) d (f 3) e = nI τ ∧ va_up (M 16 20) d (M 16 27 (24 * (6 * d + s) + 3)) e = nI τ ∧ va_up dp d dq e ≤ cntE ((rS (kr (k3 (kr K 10 3 ks) 6 8 d (nI (s + 1))) 10 1 f) d s) 18 (2 * e + τ % 2)) 1 8
    rw [up_if, up_if, hdp]
    by_cases z : e = d
    · rw [if_pos z, if_pos z, if_pos z, hf 3 (by omega), k4']
      refine ⟨τ, k3a, rfl, rfl, ?_⟩
      refine Nat.le_trans k7 (Nat.le_of_eq (cntE_cong (fun i hi => ?_)))
      rw [rS_plays _ _ _ _ _ hi, z]
      show M 16 27 (24 * (6 * d + s) + (4 + 8 * (τ % 2) + i)) = 1 ↔ _
      rcases (by omega : τ % 2 = 0 ∨ τ % 2 = 1) with y | y
      · rw [if_pos (by omega), y]
        show _ ↔ f (4 + i) = 1
        rw [hf (4 + i) (by omega)]
      · rw [if_neg (by omega), if_pos (by omega), y]
        show _ ↔ f (12 + i) = 1
        rw [hf (12 + i) (by omega)]
    · rw [hev, if_neg z] at q
      rw [if_neg z, if_neg z, if_neg z]
      obtain ⟨τ2, t1, t2, t3, t4⟩ := d6 e he q
      refine ⟨τ2, t1, t2, t3, Nat.le_trans t4 (Nat.le_of_eq (cntE_cong (fun i hi => ?_)))⟩
      rw [rS_plays _ _ _ _ _ hi, if_neg (by omega), if_neg (by omega)]
      exact Iff.rfl
  case q_dt =>
    intro e he
    show ∃ τ, τ ≤ t ∧ va_up (M 16 20) d (M 16 27 (24 * (6 * d + s) + 3)) e = nI τ
    rw [up_if]
    by_cases z : e = d
    · rw [if_pos z]
      exact ⟨τ, k3a, k4'⟩
    · rw [if_neg z]
      exact dt e he
  case q_d9 =>
    intro x hx2 i hi
    rw [rS_plays _ _ _ _ _ hi]
    show (_ ∨ _) ∧ (_ → _ = gx (8 * x + i)) ∧ _
    by_cases z : x = 2 * d
    · rw [if_pos z]
      have e1 : (kr (k3 (kr K 10 3 ks) 6 8 d (nI (s + 1))) 10 1 f) 10 1 (4 + i) = M 16 27 (24 * (6 * d + s) + (4 + i)) := hf (4 + i) (by omega)
      have e2 : gx (8 * x + i) = M 16 27 (24 * (6 * d + s) + (4 + i)) := by
        rw [show 8 * x + i = 16 * d + i by omega]
        exact (hg.1 i (by omega)).1
      rw [e1, e2]
      refine ⟨k9 i (by omega), fun _ => rfl, fun w => ?_⟩
      rw [z] at w
      exact k10 i hi w
    · rw [if_neg z]
      by_cases y : x = 2 * d + 1
      · rw [if_pos y]
        have e1 : (kr (k3 (kr K 10 3 ks) 6 8 d (nI (s + 1))) 10 1 f) 10 1 (12 + i) = M 16 27 (24 * (6 * d + s) + (12 + i)) := hf (12 + i) (by omega)
        have e2 : gx (8 * x + i) = M 16 27 (24 * (6 * d + s) + (12 + i)) := by
          rw [show 8 * x + i = 16 * d + (8 + i) by omega, show 12 + i = 4 + (8 + i) by omega]
          exact (hg.1 (8 + i) (by omega)).1
        rw [e1, e2]
        refine ⟨?_, fun _ => rfl, fun w => ?_⟩
        · have := k9 (8 + i) (by omega)
          rw [show 4 + (8 + i) = 12 + i by omega] at this
          exact this
        · rw [y] at w
          exact k11 i hi w
      · rw [if_neg y, (hg.2 (8 * x + i) (by omega)).1]
        exact d9 x hx2 i hi
  case q_d10 =>
    intro e he
    show va_up (K 6 7) d (f 20) e = _ ∧ va_up (M 16 24) d (M 16 27 (24 * (6 * d + s) + 20)) e = _ ∧ _
    rw [up_if, hdp, up_if, hev]
    by_cases z : e = d
    · rw [if_pos z, if_pos z, if_pos z, if_pos z, hf 20 (by omega), k5', z]
      refine ⟨rfl, rfl, k6, fun w => ?_⟩
      rcases w with w | w
      · exact absurd rfl w
      · omega
    · rw [if_neg z, if_neg z, if_neg z, if_neg z]
      exact d10 e he
  case q_d11 =>
    intro e he i hi
    rw [rS_stack _ _ _ _ _ hi]
    show _ = gy (16 * e + i) ∧ (i < va_up dp d dq e → _)
    rw [hdp]
    by_cases z : e = d
    · rw [if_pos z, if_pos z, z, (hg.1 i (by omega)).2]
      have e1 := n5 d hd s hs i hi
      refine ⟨e1, fun w => ?_⟩
      show okE (K 20 (6 * d + s) i)
      rw [e1]
      exact k8 i w
    · rw [if_neg z, if_neg z, (hg.2 (16 * e + i) (by omega)).2]
      exact d11 e he i hi
  case q_z0 =>
    intro e he he2
    obtain ⟨a1, a2, a3, a4, a5⟩ := z0 e he he2
    show va_up (M 16 20) d (M 16 27 (24 * (6 * d + s) + 3)) e = 0 ∧ M 16 21 (2 * e) = 0 ∧ M 16 21 (2 * e + 1) = 0 ∧ va_up (M 16 24) d (M 16 27 (24 * (6 * d + s) + 20)) e = 0 ∧ ∀ i, i < 8 → gy (16 * e + i) = 0
    rw [up_if, up_if, if_neg (by omega), if_neg (by omega)]
    refine ⟨a1, a2, a3, a4, fun i hi => ?_⟩
    rw [(hg.2 (16 * e + i) (by omega)).2]
    exact a5 i hi
  case q_n1 =>
    intro e he
    obtain ⟨a1, a2, a3, a4⟩ := n1 e he
    show va_up (M 16 26) d (nI (s + 1)) e = _ ∧ _
    rw [up_if, hsn]
    by_cases z : e = d
    · rw [if_pos z, if_pos z]
      exact ⟨rfl, by omega, fun w => by omega, fun w => by rw [z] at w; omega⟩
    · rw [if_neg z, if_neg z]
      exact ⟨a1, a2, a3, a4⟩
  case q_n0 =>
    intro e he
    show va_up (K 6 8) d (nI (s + 1)) e = _
    rw [up_if, hsn]
    by_cases z : e = d
    · rw [if_pos z, if_pos z]
    · rw [if_neg z, if_neg z]
      exact n0 e he
  case q_n2 => exact hB
  case q_n5 =>
    intro e he s2 hs2 i hi
    rw [hsn] at hs2
    have hs3 : s2 < sn e := by
      by_cases z : e = d
      · rw [if_pos z] at hs2
        rw [z]
        omega
      · rw [if_neg z] at hs2
        exact hs2
    exact n5 e he s2 hs3 i hi
  case q_n6 =>
    intro e he s2 hs2
    rw [hsn] at hs2
    have hs3 : s2 < sn e := by
      by_cases z : e = d
      · rw [if_pos z] at hs2
        rw [z]
        omega
      · rw [if_neg z] at hs2
        exact hs2
    exact n6 e he s2 hs3
  case q_o9 =>
    intro e he q
    have z : ¬ e = d := fun y => by rw [y, hw] at q; omega
    have e3 : (rS (kr (k3 (kr K 10 3 ks) 6 8 d (nI (s + 1))) 10 1 f) d s) 6 3 e = K 6 3 e := by
      show va_up (K 6 3) d (-1) e = _
      rw [up_if, if_neg z]
    have e4 : ChB cn sk ((rS (kr (k3 (kr K 10 3 ks) 6 8 d (nI (s + 1))) 10 1 f) d s) 6 3) (K 7 0) e = ChB cn sk (K 6 3) (K 7 0) e := by
      funext o
      unfold ChB
      rw [e3]
    have a := o9 e he q
    rw [← e4] at a
    exact a

