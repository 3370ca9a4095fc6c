/-! Phase 1, the reference's run. -/
theorem mR_id (U : KS) : mR U (U 13 8) (U 13 32, U 16 10) = U := by
  show kr (kr (kr U 13 8 (U 13 8)) 13 32 (U 13 32)) 16 10 (U 16 10) = U
  rw [kr_id, kr_id, kr_id]
theorem ml_ph1 {t e np nc nd no ns P r : Nat} {cn sn dp ew ev go bl sl : Nat → Nat} {sk : Nat → Nat → Nat} {K M : KS} {ap : Int64} {post : Int32 → KS → Int64 → Prop} {d : Nat} (h : RR t e np nc nd no ns P r cn sn dp ew ev go bl sl sk K M ap) (ht : t ≤ 512) (hd : d < nd) (hw : ew d = 1) (hev : ev d ≠ 0) (hPX : (xF cn sk d (K 7 0 (2 * d)) (K 7 0 (2 * d + 1)) (uX K d (rv sl ns) (P, K 11 0, K 4 2) ns)).1 < 4000) (hp : post (nI (uN K d (rv sl ns) ns)) (mH (mR (mV M K d (rv sl ns) ns) (stF (sk (2 * d + 1)) 115 0 (cn (2 * d + 1)) (stF (sk (2 * d)) 115 0 (cn (2 * d)) (M 13 8))) (qF (sk (2 * d + 1)) 0 (cn (2 * d + 1)) (qF (sk (2 * d)) 0 (cn (2 * d)) (sE K d (rv sl ns) (M 13 32) ns, M 16 10)))) (xF cn sk d (K 7 0 (2 * d)) (K 7 0 (2 * d + 1)) (uX K d (rv sl ns) (P, M 16 12, M 16 7) ns))) (K 0 4 0 - sumI (fun i => fPr K d (rv sl ns i)) ns).toInt64) : wpX7_undoes (fun r36 M37 ap38 => wpX7_restakes (fun _ M39 ap40 => post r36 M39 ap40) M37 ap38 (nI d)) M ap (nI d) := by
  obtain ⟨u1, u2, u3, u4, u5, u6⟩ := un_base h hd
  obtain ⟨f1, f2, f3, f4, f5⟩ := un_facts h hd hw hev
  have np3 := rx_np3 h
  have nc4 := rx_nc4 h
  have nd4 := rx_nd4 h
  have no3 := rx_no3 h
  have no4 := rx_no4 h
  have ns3 := rx_ns3 h
  have av := rx_av h
  have ab := rx_ab h
  have c2 := rx_c2 h
  have c4 := rx_c4 h
  have g2 := rx_g2 h
  have g6 := rx_g6 h
  have d7 := rx_d7 h
  have d8 := rx_d8 h
  have o1 := rx_o1 h
  have o2 := rx_o2 h
  have o4 := rx_o4 h
  obtain ⟨p5, p6, pa, pb, pa1, pb1, _, p7, p8⟩ := rx_d1 h d hd
  have hc5 : ∀ j, j < ns → (K 5 0 (rv sl ns j)).toNatClampNeg < nc := fun j hj => by
    obtain ⟨c, y1, y2, _⟩ := o1 _ (u1 j hj).1
    rw [y2, nI_clamp (by omega)]
    exact y1
  have hsk0 : ∀ s, (s = 2 * d ∨ s = 2 * d + 1) → ∀ j, j < 0 + cn s → sk s j < nc := fun s hs j hj => (d8 s (by omega) j (by omega)).2.2
  have hU : ∀ j, j ≤ ns → hR nc (uX K d (rv sl ns) (P, K 11 0, K 4 2) j) (uX K d (rv sl ns) (P, M 16 12, M 16 7) j) := uX_R (x := (P, K 11 0, K 4 2)) (y := (P, M 16 12, M 16 7)) (n := nc) (ns := ns) hc5 ⟨rfl, g6, fun i hi => (c2 i hi).1⟩
  have hX : hR nc (xF cn sk d (K 7 0 (2 * d)) (K 7 0 (2 * d + 1)) (uX K d (rv sl ns) (P, K 11 0, K 4 2) ns)) (xF cn sk d (K 7 0 (2 * d)) (K 7 0 (2 * d + 1)) (uX K d (rv sl ns) (P, M 16 12, M 16 7) ns)) := hF_R _ _ _ _ (hsk0 _ (Or.inr rfl)) (hF_R _ _ _ _ (hsk0 _ (Or.inl rfl)) (hU ns (Nat.le_refl ns)))
  have hge0 : (uX K d (rv sl ns) (P, K 11 0, K 4 2) ns).1 ≤ (xF cn sk d (K 7 0 (2 * d)) (K 7 0 (2 * d + 1)) (uX K d (rv sl ns) (P, K 11 0, K 4 2) ns)).1 := Nat.le_trans (hF_ge (sk := sk (2 * d)) (w := K 7 0 (2 * d)) (cn (2 * d)) 0 _) (hF_ge (sk := sk (2 * d + 1)) (w := K 7 0 (2 * d + 1)) (cn (2 * d + 1)) 0 _)
  have hUns := (hU ns (Nat.le_refl ns)).1
  have hX1 := hX.1
  have st : mH (mV M K d (rv sl ns) 0) (P, M 16 12, M 16 7) = M := by rw [mV_0, mH_id g2]
  have go := ml_undo (post := fun r36 M37 ap38 => wpX7_restakes (fun _ M39 ap40 => post r36 M39 ap40) M37 ap38 (nI d)) (M := M) (K := K) (no := no) (ns := ns) (np := np) (nc := nc) (d := d) (A := K 0 4 0) (sl := rv sl ns) (X := (P, M 16 12, M 16 7)) no3 no4 (by omega) np3 nc4 (fun j hj => ⟨(u1 j hj).1, (u1 j hj).2.1⟩) u6 u3 (fun k hk => by obtain ⟨y1, x, _, b, c⟩ := o2 k hk; exact ⟨y1.symm, x, b, c⟩) (fun k hk q => ⟨(u4 k hk q).2.2.2.1, (u4 k hk q).2.1, (u4 k hk q).2.2.2.2⟩) o1 (fun k hk => ⟨(o4 k hk).1.symm, (o4 k hk).2⟩) (fun i hi q => by
    rw [← (hU i (by omega)).2.2 _ (hc5 i hi)]
    exact f1 i hi q) (by omega) (by omega) ?_ ns 0 (by omega)
  · have e0 : (K 0 4 0 - sumI (fun i => fPr K d (rv sl ns i)) 0).toInt64 = ap := by
      rw [show sumI (fun i => fPr K d (rv sl ns i)) 0 = 0 from rfl, Int32.sub_zero]
      exact av
    rw [e0] at go
    have st2 : mH (mV M K d (rv sl ns) 0) (uX K d (rv sl ns) (P, M 16 12, M 16 7) 0) = M := st
    rw [st2] at go
    exact ⟨_, go⟩
  · have e : mV M K d (rv sl ns) ns = mR (mV M K d (rv sl ns) ns) (M 13 8) (sE K d (rv sl ns) (M 13 32) ns, M 16 10) := (mR_id (mV M K d (rv sl ns) ns)).symm
    rw [e]
    refine ml_rest (M := mV M K d (rv sl ns) ns) (nq := nc) (cn := cn) (sk := sk) nc4 (by omega) (fun e he => ⟨(d7 (2 * d + e) (by omega)).2.1, (d7 (2 * d + e) (by omega)).2.2.1⟩) (fun e he i hi => ⟨(d8 (2 * d + e) (by omega) i hi).2.1, (d8 (2 * d + e) (by omega) i hi).2.2⟩) p5.symm p6.symm (by rw [p7]; exact nI_neg1 (by omega)) (by rw [p8]; exact nI_neg1 (by omega)) (fun c hc => ?_) ?_ ?_
    · rcases c4 c hc with z | ⟨k, k1, k2, _⟩
      · exact Or.inl z.1
      · exact Or.inr ⟨k, by omega, k2⟩
    · show (xF cn sk d (K 7 0 (2 * d)) (K 7 0 (2 * d + 1)) (uX K d (rv sl ns) (P, M 16 12, M 16 7) ns)).1 < 4000
      omega
    · exact hp
