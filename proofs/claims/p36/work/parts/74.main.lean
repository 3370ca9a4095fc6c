/-! The law's loop. -/
set_option maxRecDepth 100000 in
theorem e_123 {bk : Nat → Nat → Int32 → Int32 → Int32 → Int32 → Int32 → Int32 → KS → KS → Prop} {t np nc nd no uc us n : Nat} {sn : Nat → Nat} {al : Int32} {K M : KS} {l9 l10 l11 l12 l13 t0 t1 : Int32} (ht : t < 76) (hbk : HB bk t) (hJ : J36 t np nc nd no sn al uc us K M) (h0 : t0 = nI n) (h1 : 1 ≤ n) (h2 : n ≤ 1000) (hno : no ≤ 60) : wL_law_123 bk uc us (nI np) (nI nc) (nI nd) (nI no) al (nI t) l9 l10 l11 l12 l13 t0 t1 K M := by
  subst h0
  unfold wL_law_123
  refine low_ok h1 h2 ?_
  rw [nI_1]
  refine low_ok (by omega) (by omega) ⟨fun _ => ⟨fun _ => ⟨fun _ => low_ok (n := 28) (by omega) (by omega) (e_181 ht hbk hJ), fun _ => e_181 ht hbk hJ⟩, fun _ => e_181 ht hbk hJ⟩, fun _ => e_181 ht hbk hJ⟩
set_option maxRecDepth 100000 in
theorem main_loop : ∀ (r t np nc nd no uc us : Nat) (sn : Nat → Nat) (al : Int32) (K M : KS), t + r = 76 → J36 t np nc nd no sn al uc us K M → wL_law_30 (r + 1) uc us (nI np) (nI nc) (nI nd) (nI no) al (nI t) K M := by
  intro r
  induction r with
  | zero =>
    intro t np nc nd no uc us sn al K M ht hJ
    obtain ⟨hV, hB, hal, hM, huc, hus⟩ := hJ
    have hlim : nc ≤ 40 ∧ nd ≤ 8 ∧ no ≤ 60 := by
      obtain ⟨ns, P, r, cn, dp, ew, go, bl, sl, sk, M1, ap, h⟩ := hV
      exact ⟨rx_nc4 h, rx_nd4 h, rx_no4 h⟩
    obtain ⟨nc4, nd4, no4⟩ := hlim
    have h76 : t = 76 := by omega
    subst h76
    have nin : ∀ n j : Nat, n ≤ 100 → j < n → ¬ nI n = nI j := fun n j hn hj e => by
      have := (nI_eq (by omega) (by omega)).mp e
      omega
    unfold wL_law_30
    refine ⟨fun _ => ⟨2, 12, by omega, by omega, r_owner hV (fun c hc e => absurd e (nin nc c (by omega) hc)) (fun _ => ⟨fun z => absurd rfl z, fun _ => ?_⟩)⟩, fun z => absurd (nI_le (a := 76) (b := 76) (by omega) (by omega)) z⟩
    refine ⟨2, 12, by omega, by omega, r_dstate hV (fun d hd e => absurd e (nin nd d (by omega) hd)) (fun _ => ⟨fun z => absurd rfl z, fun _ => ?_⟩)⟩
    refine ⟨2, 12, by omega, by omega, r_ostate hV (fun k hk e => absurd e (nin no k (by omega) hk)) (fun _ => ⟨fun z => absurd rfl z, fun _ => ?_⟩)⟩
    unfold wL_law_1179
    rfl
  | succ r ih =>
    intro t np nc nd no uc us sn al K M ht hJ
    have hlim : np ≤ 6 ∧ nc ≤ 40 ∧ nd ≤ 8 ∧ no ≤ 60 := by
      obtain ⟨ns, P, r, cn, dp, ew, go, bl, sl, sk, M1, ap, h⟩ := hJ.1
      exact ⟨rx_np3 h, rx_nc4 h, rx_nd4 h, rx_no4 h⟩
    obtain ⟨np3, nc4, nd4, no4⟩ := hlim
    have hbk : HB (wL_law_30 (r + 1)) t := fun np nc nd no sn al uc us K M hJ2 => ih (t + 1) np nc nd no uc us sn al K M (by omega) hJ2
    unfold wL_law_30
    refine ⟨fun z => absurd z (nI_ge (a := t) (b := 76) (by omega) (by omega)), fun _ => ?_⟩
    have e2 : (2 : Int32) * nI t = nI (2 * t) := nI_mul 2 t
    rw [e2, nI_1, nI_1, nI_1, nI_1]
    refine ⟨2 * t, ⟨rfl, by omega⟩, fun v16 => ⟨2 * t + 1, ⟨rfl, by omega⟩, fun v19 => ?_⟩⟩
    refine low_ok (by omega) (by omega) (low_ok (by omega) (by omega) (low_ok (by omega) (by omega) (low_ok (n := 19) (by omega) (by omega) ⟨fun _ => ?_, fun _ => ?_⟩)))
    · by_cases z : 1 < nd
      · exact e_123 (n := nd) (by omega) hbk hJ (if_pos (nI_lt (a := 1) z (by omega))) (by omega) (by omega) no4
      · exact e_123 (n := 1) (by omega) hbk hJ (if_neg (nI_nlt (a := 1) (by omega) (by omega))) (by omega) (by omega) no4
    · exact e_123 (n := nd + 1) (by omega) hbk hJ rfl (by omega) (by omega) no4
theorem law_in : ∃ n : Nat, wL_law_30 n 13 1722 0 0 0 0 0 0 K00 M00 := by
  refine ⟨77, main_loop 76 0 0 0 0 0 13 1722 (fun _ => 0) 0 K00 M00 rfl ⟨inv_0, ⟨fun p hp => absurd hp (Nat.not_lt_zero p), ?_, ?_⟩, rfl, fun d hd => rfl, by omega, by omega⟩⟩
  · show (0 : Int) ≤ (0 : Int32).toInt
    decide
  · show (0 : Int32).toInt ≤ _
    have : (0 : Int32).toInt = 0 := by decide
    omega
