/-! Phase 1 of a roll back, both sides. -/
theorem uP_0 (K : KS) (d : Nat) (sl : Nat → Nat) : uP K d sl 0 = K := by
  have e1 : aG K d sl 0 = K 0 4 := by
    funext p
    show va_up (K 0 4) 0 (K 0 4 0 - 0) p = _
    rw [up_if, Int32.sub_zero]
    by_cases z : p = 0
    · rw [if_pos z, z]
    · rw [if_neg z]
  have e2 : cG K d sl 0 = K 10 0 := funext fun p => Int32.add_zero _
  unfold uP
  rw [e1, e2]
  show kr (kr (kr (kr K 5 5 (K 5 5)) 5 4 (K 5 4)) 0 4 (K 0 4)) 10 0 (K 10 0) = K
  rw [kr_id, kr_id, kr_id, kr_id]
theorem mV_0 (M K : KS) (d : Nat) (sl : Nat → Nat) : mV M K d sl 0 = M := by
  have e2 : cR M K d sl 0 = M 16 2 := funext fun p => Int32.add_zero _
  unfold mV
  rw [e2]
  show kr (kr M 13 32 (M 13 32)) 16 2 (M 16 2) = M
  rw [kr_id, kr_id]
theorem oZ_0 (Z : KS) (d : Nat) : oZ Z d 0 = Z := by
  show kr (kr Z 5 4 (Z 5 4)) 4 4 (Z 4 4) = Z
  rw [kr_id, kr_id]
theorem oZ_kH {U : KS} {r d i : Nat} {y : LXp} : oZ (kH U r y) d i = kH (oZ U d i) r y := by
  show kr (kr (kH U r y) 5 4 (oF (U 5 4) (U 5 0) (U 4 5) d i)) 4 4 (oG (U 5 4) (U 5 0) (U 4 5) (U 4 4) d i) = _
  rw [kH_sw _ (by omega) (by omega) (by omega) (by omega), kH_sw _ (by omega) (by omega) (by omega) (by omega)]
  rfl
theorem cl_ph1 {t e np nc nd no ns P r : Nat} {cn sn dp ew ev go bl sl : Nat → Nat} {sk : Nat → Nat → Nat} {K M : KS} {ap : Int64} {post : Int32 → KS → Prop} {px : String → KS → Prop} {mc ms uc0 us0 d s : Nat} (h : RR t e np nc nd no ns P r cn sn dp ew ev go bl sl sk K M ap) (hd : d < nd) (hw : ew d = 1) (hev : ev d ≠ 0) (hPX : (xF cn sk d (K 7 0 (2 * d)) (K 7 0 (2 * d + 1)) (uX K d (rv sl ns) (P, K 11 0, K 4 2) ns)).1 < 4000) (hB : 3 * (xF cn sk d (K 7 0 (2 * d)) (K 7 0 (2 * d + 1)) (uX K d (rv sl ns) (P, K 11 0, K 4 2) ns)).1 ≤ r ∨ (uc0 + 1 ≤ mc ∧ us0 + 2 * r ≤ ms ∧ 3 * (xF cn sk d (K 7 0 (2 * d)) (K 7 0 (2 * d + 1)) (uX K d (rv sl ns) (P, K 11 0, K 4 2) ns)).1 ≤ 2 * r)) (hu0 : uc0 ≤ mc) (hs0 : us0 ≤ ms) (hp : ∀ r2 y uc us, rOK r2 → 3 * (xF cn sk d (K 7 0 (2 * d)) (K 7 0 (2 * d + 1)) (uX K d (rv sl ns) (P, K 11 0, K 4 2) ns)).1 ≤ r2 → hRf y (xF cn sk d (K 7 0 (2 * d)) (K 7 0 (2 * d + 1)) (uX K d (rv sl ns) (P, K 11 0, K 4 2) ns)) → wX6_rollBack_139 post px mc ms uc us (nI s) d (nI (uN K d (rv sl ns) ns)) (kH (kr (oZ (uP K d (rv sl ns) ns) d no) 4 3 (stF (sk (2 * d + 1)) 115 0 (cn (2 * d + 1)) (stF (sk (2 * d)) 115 0 (cn (2 * d)) (K 4 3)))) r2 y)) : ∃ a26 a27 : Nat, uc0 + a26 ≤ mc ∧ us0 + a27 ≤ ms ∧ wpX6_undoSales (fun r28 K29 => (wpX6_dropOffers (fun _ K30 => (d < nD K30) ∧ ((∃ a32 a33 : Nat, (uc0 + a26) + a32 ≤ mc ∧ (us0 + a27) + a33 ≤ ms ∧ wpX6_takeCardsBack (fun _ K34 => (d < nD K34) ∧ ((∃ a36 a37 : Nat, ((uc0 + a26) + a32) + a36 ≤ mc ∧ ((us0 + a27) + a33) + a37 ≤ ms ∧ wpX6_takeCardsBack (fun _ K38 => wX6_rollBack_139 post px mc ms (((uc0 + a26) + a32) + a36) (((us0 + a27) + a33) + a37) (nI s) d r28 K38) a36 a37 K34 (2 * d + 1)))) a32 a33 K30 (2 * d)))) K29 (nI d))) a26 a27 K (nI d) := by
  obtain ⟨u1, u2, u3, u4, u5, u6⟩ := un_base h hd
  have np3 := rx_np3 h
  have nc2 := rx_nc2 h
  have nc4 := rx_nc4 h
  have nd2 := rx_nd2 h
  have nd4 := rx_nd4 h
  have no1 := rx_no1 h
  have no2 := rx_no2 h
  have no4 := rx_no4 h
  have ns1 := rx_ns1 h
  have ns3 := rx_ns3 h
  have lc2 := rx_lc2 h
  have lc3 := rx_lc3 h
  have l2 := rx_l2 h
  have c0 := rx_c0 h
  have g1 := rx_g1 h
  have g3 := rx_g3 h
  have g4 := rx_g4 h
  have g5 := rx_g5 h
  have d7 := rx_d7 h
  have d8 := rx_d8 h
  have o1 := rx_o1 h
  have o4 := rx_o4 h
  obtain ⟨_, _, pa, pb, pa1, pb1, _, p7, p8⟩ := rx_d1 h d hd
  have hD : nD K = nd := nD_of nd2 (by omega)
  have hC : nC K = nc := nC_of nc2 (by omega)
  have hO : nO K = no := nO_of no2 (by omega)
  obtain ⟨XC, hXC⟩ : ∃ x, x = uX K d (rv sl ns) (P, K 11 0, K 4 2) ns := ⟨_, rfl⟩
  have eX : xF cn sk d (K 7 0 (2 * d)) (K 7 0 (2 * d + 1)) (uX K d (rv sl ns) (P, K 11 0, K 4 2) ns) = hF (sk (2 * d + 1)) (K 7 0 (2 * d + 1)) 0 (cn (2 * d + 1)) (hF (sk (2 * d)) (K 7 0 (2 * d)) 0 (cn (2 * d)) XC) := by
    rw [hXC]
    rfl
  rw [eX] at hPX hB hp
  obtain ⟨X2, hX2⟩ : ∃ x, x = hF (sk (2 * d)) (K 7 0 (2 * d)) 0 (cn (2 * d)) XC := ⟨_, rfl⟩
  rw [← hX2] at hPX hB hp
  have ge1 : XC.1 ≤ X2.1 := by rw [hX2]; exact hF_ge _ _ _
  have ge2 : X2.1 ≤ (hF (sk (2 * d + 1)) (K 7 0 (2 * d + 1)) 0 (cn (2 * d + 1)) X2).1 := hF_ge _ _ _
  -- the second side
  have S3 : ∀ r y uc us, uc ≤ mc → us ≤ ms → rOK r → hRf y X2 → 3 * X2.1 ≤ r → (3 * (hF (sk (2 * d + 1)) (K 7 0 (2 * d + 1)) 0 (cn (2 * d + 1)) X2).1 ≤ r ∨ (uc + 1 ≤ mc ∧ us + 2 * r ≤ ms ∧ 3 * (hF (sk (2 * d + 1)) (K 7 0 (2 * d + 1)) 0 (cn (2 * d + 1)) X2).1 ≤ 2 * r)) → ∃ a36 a37 : Nat, uc + a36 ≤ mc ∧ us + a37 ≤ ms ∧ wpX6_takeCardsBack (fun _ K38 => wX6_rollBack_139 post px mc ms (uc + a36) (us + a37) (nI s) d (nI (uN K d (rv sl ns) ns)) K38) a36 a37 (kH (kr (oZ (uP K d (rv sl ns) ns) d no) 4 3 (stF (sk (2 * d)) 115 0 (cn (2 * d)) (K 4 3))) r y) (2 * d + 1) := by
    intro r y uc us q1 q2 hr hy h5 hb
    have d7' := d7 (2 * d + 1) (by omega)
    have run : ∀ a b, (3 * (hF (sk (2 * d + 1)) (K 7 0 (2 * d + 1)) 0 (cn (2 * d + 1)) X2).1 ≤ r ∨ (0 + 1 ≤ a ∧ 0 + 2 * r ≤ b ∧ 3 * (hF (sk (2 * d + 1)) (K 7 0 (2 * d + 1)) 0 (cn (2 * d + 1)) X2).1 ≤ 2 * r)) → wpX6_takeCardsBack (fun _ K38 => wX6_rollBack_139 post px mc ms (uc + a) (us + b) (nI s) d (nI (uN K d (rv sl ns) ns)) K38) a b (kH (kr (oZ (uP K d (rv sl ns) ns) d no) 4 3 (stF (sk (2 * d)) 115 0 (cn (2 * d)) (K 4 3))) r y) (2 * d + 1) := fun a b hb2 =>
      ⟨cn (2 * d + 1) + 1, cl_back (K := oZ (uP K d (rv sl ns) ns) d no) (nd := nd) (nc := nc) (w := K 7 0 (2 * d + 1)) (sk := sk (2 * d + 1)) hD hC (by omega) nc4 d7'.1 d7'.2.2.2 d7'.2.2.1 (fun i hi => ⟨(d8 (2 * d + 1) (by omega) i hi).1, (d8 (2 * d + 1) (by omega) i hi).2.2⟩) c0 rfl (by rw [p8]; exact nI_neg1 (by omega)) (cn (2 * d + 1)) 0 _ r y X2 0 0 (by omega) (by omega) (by omega) hy hr h5 hPX hb2 (fun r2 y2 v1 v2 v3 v4 => hp r2 y2 _ _ v1 v2 v4)⟩
    by_cases c : 3 * (hF (sk (2 * d + 1)) (K 7 0 (2 * d + 1)) 0 (cn (2 * d + 1)) X2).1 ≤ r
    · exact ⟨0, 0, by omega, by omega, run 0 0 (Or.inl c)⟩
    · have hb' := hb.resolve_left c
      exact ⟨1, 2 * r, by omega, by omega, run 1 (2 * r) (Or.inr ⟨by omega, by omega, hb'.2.2⟩)⟩
  -- the first side
  have S2 : ∀ r y uc us, uc ≤ mc → us ≤ ms → rOK r → hRf y XC → 3 * XC.1 ≤ r → (3 * (hF (sk (2 * d + 1)) (K 7 0 (2 * d + 1)) 0 (cn (2 * d + 1)) X2).1 ≤ r ∨ (uc + 1 ≤ mc ∧ us + 2 * r ≤ ms ∧ 3 * (hF (sk (2 * d + 1)) (K 7 0 (2 * d + 1)) 0 (cn (2 * d + 1)) X2).1 ≤ 2 * r)) → ∃ a32 a33 : Nat, uc + a32 ≤ mc ∧ us + a33 ≤ ms ∧ wpX6_takeCardsBack (fun _ K34 => (d < nD K34) ∧ ((∃ a36 a37 : Nat, (uc + a32) + a36 ≤ mc ∧ (us + a33) + a37 ≤ ms ∧ wpX6_takeCardsBack (fun _ K38 => wX6_rollBack_139 post px mc ms ((uc + a32) + a36) ((us + a33) + a37) (nI s) d (nI (uN K d (rv sl ns) ns)) K38) a36 a37 K34 (2 * d + 1)))) a32 a33 (kH (kr (oZ (uP K d (rv sl ns) ns) d no) 4 3 (K 4 3)) r y) (2 * d) := by
    intro r y uc us q1 q2 hr hy h5 hb
    have d7' := d7 (2 * d) (by omega)
    have hr8 : ∀ r2, r2 = r ∨ r2 = 2 * r → True := fun _ _ => trivial
    have run : ∀ a b, uc + a ≤ mc → us + b ≤ ms → (3 * (hF (sk (2 * d)) (K 7 0 (2 * d)) 0 (cn (2 * d)) XC).1 ≤ r ∨ (0 + 1 ≤ a ∧ 0 + 2 * r ≤ b ∧ 3 * (hF (sk (2 * d)) (K 7 0 (2 * d)) 0 (cn (2 * d)) XC).1 ≤ 2 * r)) → (∀ r2, 3 * X2.1 ≤ r2 → (r2 = r ∨ (r2 = 2 * r ∧ ¬ 3 * X2.1 ≤ r)) → 3 * (hF (sk (2 * d + 1)) (K 7 0 (2 * d + 1)) 0 (cn (2 * d + 1)) X2).1 ≤ r2 ∨ ((uc + a) + 1 ≤ mc ∧ (us + b) + 2 * r2 ≤ ms ∧ 3 * (hF (sk (2 * d + 1)) (K 7 0 (2 * d + 1)) 0 (cn (2 * d + 1)) X2).1 ≤ 2 * r2)) → wpX6_takeCardsBack (fun _ K34 => (d < nD K34) ∧ ((∃ a36 a37 : Nat, (uc + a) + a36 ≤ mc ∧ (us + b) + a37 ≤ ms ∧ wpX6_takeCardsBack (fun _ K38 => wX6_rollBack_139 post px mc ms ((uc + a) + a36) ((us + b) + a37) (nI s) d (nI (uN K d (rv sl ns) ns)) K38) a36 a37 K34 (2 * d + 1)))) a b (kH (kr (oZ (uP K d (rv sl ns) ns) d no) 4 3 (K 4 3)) r y) (2 * d) := fun a b w1 w2 hb2 hnx =>
      ⟨cn (2 * d) + 1, cl_back (K := oZ (uP K d (rv sl ns) ns) d no) (nd := nd) (nc := nc) (w := K 7 0 (2 * d)) (sk := sk (2 * d)) hD hC (by omega) nc4 d7'.1 d7'.2.2.2 d7'.2.2.1 (fun i hi => ⟨(d8 (2 * d) (by omega) i hi).1, (d8 (2 * d) (by omega) i hi).2.2⟩) c0 rfl (by rw [p7]; exact nI_neg1 (by omega)) (cn (2 * d)) 0 _ r y XC 0 0 (by omega) (by omega) (by omega) hy hr h5 (by rw [← hX2]; omega) hb2 (fun r2 y2 v1 v2 v3 v4 => by
        rw [← hX2] at v2 v3 v4
        exact ⟨by show d < nD K; omega, S3 r2 y2 _ _ w1 w2 v1 v4 v2 (hnx r2 v2 v3)⟩)⟩
    rw [← hX2] at run
    by_cases c : 3 * X2.1 ≤ r
    · refine ⟨0, 0, by omega, by omega, run 0 0 (by omega) (by omega) (Or.inl c) (fun r2 v1 v2 => ?_)⟩
      have : r2 = r := v2.resolve_right (fun z => z.2 c)
      subst this
      exact hb
    · have hb' : uc + 1 ≤ mc ∧ us + 2 * r ≤ ms ∧ 3 * (hF (sk (2 * d + 1)) (K 7 0 (2 * d + 1)) 0 (cn (2 * d + 1)) X2).1 ≤ 2 * r := hb.resolve_left (fun z => c (by omega))
      refine ⟨1, 2 * r, by omega, by omega, run 1 (2 * r) (by omega) (by omega) (Or.inr ⟨by omega, by omega, by omega⟩) (fun r2 v1 v2 => ?_)⟩
      have : r2 = 2 * r := by
        rcases v2 with z | z
        · omega
        · exact z.1
      subst this
      exact Or.inl hb'.2.2
  -- the sales
  have run : ∀ a b, uc0 + a ≤ mc → us0 + b ≤ ms → (3 * XC.1 ≤ r ∨ (0 + 1 ≤ a ∧ 0 + 2 * r ≤ b ∧ 3 * XC.1 ≤ 2 * r)) → (∀ r2, 3 * XC.1 ≤ r2 → (r2 = r ∨ (r2 = 2 * r ∧ ¬ 3 * XC.1 ≤ r)) → 3 * (hF (sk (2 * d + 1)) (K 7 0 (2 * d + 1)) 0 (cn (2 * d + 1)) X2).1 ≤ r2 ∨ ((uc0 + a) + 1 ≤ mc ∧ (us0 + b) + 2 * r2 ≤ ms ∧ 3 * (hF (sk (2 * d + 1)) (K 7 0 (2 * d + 1)) 0 (cn (2 * d + 1)) X2).1 ≤ 2 * r2)) → wpX6_undoSales (fun r28 K29 => (wpX6_dropOffers (fun _ K30 => (d < nD K30) ∧ ((∃ a32 a33 : Nat, (uc0 + a) + a32 ≤ mc ∧ (us0 + b) + a33 ≤ ms ∧ wpX6_takeCardsBack (fun _ K34 => (d < nD K34) ∧ ((∃ a36 a37 : Nat, ((uc0 + a) + a32) + a36 ≤ mc ∧ ((us0 + b) + a33) + a37 ≤ ms ∧ wpX6_takeCardsBack (fun _ K38 => wX6_rollBack_139 post px mc ms (((uc0 + a) + a32) + a36) (((us0 + b) + a33) + a37) (nI s) d r28 K38) a36 a37 K34 (2 * d + 1)))) a32 a33 K30 (2 * d)))) K29 (nI d))) a b K (nI d) := by
    intro a b w1 w2 hb2 hnx
    have st : kH (uP K d (rv sl ns) 0) r (P, K 11 0, K 4 2) = K := by rw [uP_0, kH_id g1 g3]
    refine ⟨ns + 1, ?_⟩
    rw [ns1]
    have go := cl_undo (post := fun r28 K29 => (wpX6_dropOffers (fun _ K30 => (d < nD K30) ∧ ((∃ a32 a33 : Nat, (uc0 + a) + a32 ≤ mc ∧ (us0 + b) + a33 ≤ ms ∧ wpX6_takeCardsBack (fun _ K34 => (d < nD K34) ∧ ((∃ a36 a37 : Nat, ((uc0 + a) + a32) + a36 ≤ mc ∧ ((us0 + b) + a33) + a37 ≤ ms ∧ wpX6_takeCardsBack (fun _ K38 => wX6_rollBack_139 post px mc ms (((uc0 + a) + a32) + a36) (((us0 + b) + a33) + a37) (nI s) d r28 K38) a36 a37 K34 (2 * d + 1)))) a32 a33 K30 (2 * d)))) K29 (nI d))) (K := K) (mc := a) (ms := b) (no := no) (ns := ns) (np := np) (nc := nc) (d := d) (sl := rv sl ns) (X := (P, K 11 0, K 4 2)) hO hC ns1 lc3 (by omega) np3 no4 nc4 (fun j hj => ⟨(u1 j hj).2.2, (u1 j hj).1⟩) u2 (fun k hk q => (u4 k hk q).2.2.2.2) (fun k hk => by obtain ⟨c, c1, c2, _⟩ := o1 k hk; exact ⟨c, c1, c2⟩) (fun k hk => (o4 k hk).2) c0 (by rw [← hXC]; omega) ns 0 r (P, K 11 0, K 4 2) 0 0 (by omega) (by omega) (by omega) ⟨rfl, fun _ _ => rfl, rfl⟩ g4 g5 (by rw [← hXC]; exact hb2) (fun r2 y2 v1 v2 v3 v4 => ?_)
    · rw [st] at go
      exact go
    · rw [← hXC] at v2 v3 v4
      refine ⟨no + 1, ?_⟩
      have dr := cl_dropO (post := fun _ K30 => (d < nD K30) ∧ ((∃ a32 a33 : Nat, (uc0 + a) + a32 ≤ mc ∧ (us0 + b) + a33 ≤ ms ∧ wpX6_takeCardsBack (fun _ K34 => (d < nD K34) ∧ ((∃ a36 a37 : Nat, ((uc0 + a) + a32) + a36 ≤ mc ∧ ((us0 + b) + a33) + a37 ≤ ms ∧ wpX6_takeCardsBack (fun _ K38 => wX6_rollBack_139 post px mc ms (((uc0 + a) + a32) + a36) (((us0 + b) + a33) + a37) (nI s) d (nI (uN K d (rv sl ns) ns)) K38) a36 a37 K34 (2 * d + 1)))) a32 a33 K30 (2 * d)))) (Z := kH (uP K d (rv sl ns) ns) r2 y2) (no := no) (nc := nc) (d := d) hO hC no1 lc2 no4 nc4 l2 (fun k hk => by obtain ⟨c, c1, c2, _⟩ := o1 k hk; exact ⟨c, c1, c2⟩) ?_ no 0 (by omega)
      · rw [oZ_0] at dr
        exact dr
      · rw [oZ_kH]
        refine ⟨by show d < nD K; omega, ?_⟩
        have e43 : kr (oZ (uP K d (rv sl ns) ns) d no) 4 3 (K 4 3) = oZ (uP K d (rv sl ns) ns) d no := by
          rw [show K 4 3 = (oZ (uP K d (rv sl ns) ns) d no) 4 3 from rfl, kr_id]
        have fin := S2 r2 y2 (uc0 + a) (us0 + b) w1 w2 v1 v4 v2 (hnx r2 v2 v3)
        rw [e43] at fin
        exact fin
  by_cases c : 3 * XC.1 ≤ r
  · refine ⟨0, 0, by omega, by omega, run 0 0 (by omega) (by omega) (Or.inl c) (fun r2 v1 v2 => ?_)⟩
    have : r2 = r := v2.resolve_right (fun z => z.2 c)
    subst this
    exact hB
  · have hb' := hB.resolve_left (fun z => c (by omega))
    refine ⟨1, 2 * r, by omega, by omega, run 1 (2 * r) (by omega) (by omega) (Or.inr ⟨by omega, by omega, by omega⟩) (fun r2 v1 v2 => ?_)⟩
    have : r2 = 2 * r := by
      rcases v2 with z | z
      · omega
      · exact z.1
    subst this
    exact Or.inl hb'.2.2

