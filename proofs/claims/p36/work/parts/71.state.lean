/-! The law's state: one number of the class's state alone. -/
def manV (K : KS) (d : Nat) : Int32 := if K 6 2 d = 103 then K 6 4 d else -1004
def winV (K : KS) (d : Nat) : Int32 := if K 6 2 d = 111 ∨ K 6 2 d = 103 then -1005 else K 6 3 d
def sQp (K : KS) (nc : Nat) : Nat → Int64
  | 0 => 277
  | p + 1 => (31 * ((31 * sQp K nc p) + (K 10 0 p).toInt64)) + (foldC (K 4 2) (nI p) 0 nc 0).toInt64
def sQc (K : KS) (h : Int64) : Nat → Int64
  | 0 => h
  | c + 1 => (31 * ((31 * sQc K h c) + (K 4 2 c).toInt64)) + (K 4 3 c).toInt64
def sQd (K : KS) (h : Int64) : Nat → Int64
  | 0 => h
  | d + 1 => (31 * ((31 * ((31 * ((31 * ((31 * ((31 * sQd K h d) + (K 6 2 d).toInt64)) + (K 7 1 (2 * d)).toInt64)) + (K 7 1 (2 * d + 1)).toInt64)) + (manV K d).toInt64)) + (K 6 7 d).toInt64)) + (winV K d).toInt64
def sQo (K : KS) (h : Int64) : Nat → Int64
  | 0 => h
  | k + 1 => (31 * sQo K h k) + (K 5 4 k).toInt64
def sQf (K : KS) (h : Int64) : Int64 := (31 * ((31 * ((31 * ((31 * h) + (K 0 3 0).toInt64)) + (K 0 4 0).toInt64)) + (nI (bkN K)).toInt64)) + (K 1 1 0).toInt64
def sQ (K : KS) (np nc nd no : Nat) : Int64 := sQf K (sQo K (sQd K (sQc K (sQp K nc np) nc) nd) no)
theorem nI_inj {i j n : Nat} (hi : i < n) (hj : j < n) (hn : n < 2 ^ 31) (e : nI i = nI j) : i = j := (nI_eq (by omega) (by omega)).mp e
theorem st_226 {t np nc nd no : Nat} {sn : Nat → Nat} {K : KS} {G : Int64 → Prop} {mc ms : Nat} {h : Int64} (hI : V36 t np nc nd no sn K) (hno : no ≤ 60) (hG : G (sQf K (sQo K h no))) : ∀ r i uc us : Nat, i + r = no → uc + 2 * r ≤ mc → us + 12 * r ≤ ms → wL_state_226 G mc ms (r + 1) uc us (nI no) (sQo K h i) (nI i) K := by
  intro r
  induction r with
  | zero =>
    intro i uc us hi h1 h2
    have : i = no := by omega
    subst this
    unfold wL_state_226
    exact ⟨fun _ => r_house (r_apart (r_blocks hI (r_postings hG))), fun c => absurd (nI_le (Nat.le_refl i) (by omega)) c⟩
  | succ r ih =>
    intro i uc us hi h1 h2
    unfold wL_state_226
    refine ⟨fun c => absurd c (nI_ge (by omega) (by omega)), fun _ => ⟨2, 12, by omega, by omega, r_ostate hI (fun k hk e => ?_) (fun z => absurd (in_nI (by omega) (by omega)) z)⟩⟩
    have : i = k := nI_inj (by omega) hk (by omega) e
    subst this
    rw [nI_1]
    exact ih (i + 1) (uc + 2) (us + 12) (by omega) (by omega) (by omega)
theorem st_107 {t np nc nd no : Nat} {sn : Nat → Nat} {K : KS} {G : Int64 → Prop} {mc ms : Nat} {h : Int64} (hI : V36 t np nc nd no sn K) (hnd : nd ≤ 8) (hno : no ≤ 60) (hG : G (sQf K (sQo K (sQd K h nd) no))) : ∀ r i uc us : Nat, i + r = nd → uc + 12 * r + 120 ≤ mc → us + 72 * r + 720 ≤ ms → wL_state_107 G mc ms (r + 1) uc us (nI nd) (nI no) (sQd K h i) (nI i) K := by
  intro r
  induction r with
  | zero =>
    intro i uc us hi h1 h2
    have : i = nd := by omega
    subst this
    unfold wL_state_107
    exact ⟨fun _ => ⟨no + 1, st_226 hI hno hG no 0 uc us (by omega) (by omega) (by omega)⟩, fun c => absurd (nI_le (Nat.le_refl i) (by omega)) c⟩
  | succ r ih =>
    intro i uc us hi h1 h2
    unfold wL_state_107
    refine ⟨fun c => absurd c (nI_ge (by omega) (by omega)), fun _ => ⟨2, 12, by omega, by omega, r_dstate hI (fun k hk e => ?_) (fun z => absurd (in_nI (by omega) (by omega)) z)⟩⟩
    have : i = k := nI_inj (by omega) hk (by omega) e
    subst this
    refine ⟨2, 12, by omega, by omega, r_life0 hI (fun k hk e => ?_) (fun z => absurd (in_nI (by omega) (by omega)) z)⟩
    have : i = k := nI_inj (by omega) hk (by omega) e
    subst this
    refine ⟨2, 12, by omega, by omega, r_life1 hI (fun k hk e => ?_) (fun z => absurd (in_nI (by omega) (by omega)) z)⟩
    have : i = k := nI_inj (by omega) hk (by omega) e
    subst this
    refine ⟨2, 12, by omega, by omega, r_mana hI (fun k hk e => ?_) (fun z => absurd (in_nI (by omega) (by omega)) z)⟩
    have : i = k := nI_inj (by omega) hk (by omega) e
    subst this
    refine ⟨2, 12, by omega, by omega, r_depth hI (fun k hk e => ?_) (fun z => absurd (in_nI (by omega) (by omega)) z)⟩
    have : i = k := nI_inj (by omega) hk (by omega) e
    subst this
    refine ⟨2, 12, by omega, by omega, r_winner hI (fun k hk e => ?_) (fun z => absurd (in_nI (by omega) (by omega)) z)⟩
    have : i = k := nI_inj (by omega) hk (by omega) e
    subst this
    rw [nI_1]
    exact ih (i + 1) (uc + 2 + 2 + 2 + 2 + 2 + 2) (us + 12 + 12 + 12 + 12 + 12 + 12) (by omega) (by omega) (by omega)
theorem st_58 {t np nc nd no : Nat} {sn : Nat → Nat} {K : KS} {G : Int64 → Prop} {mc ms : Nat} {h : Int64} (hI : V36 t np nc nd no sn K) (hnc : nc ≤ 40) (hnd : nd ≤ 8) (hno : no ≤ 60) (hG : G (sQf K (sQo K (sQd K (sQc K h nc) nd) no))) : ∀ r i uc us : Nat, i + r = nc → uc + 4 * r + 216 ≤ mc → us + 24 * r + 1296 ≤ ms → wL_state_58 G mc ms (r + 1) uc us (nI nc) (nI nd) (nI no) (sQc K h i) (nI i) K := by
  intro r
  induction r with
  | zero =>
    intro i uc us hi h1 h2
    have : i = nc := by omega
    subst this
    unfold wL_state_58
    exact ⟨fun _ => ⟨nd + 1, st_107 hI hnd hno hG nd 0 uc us (by omega) (by omega) (by omega)⟩, fun c => absurd (nI_le (Nat.le_refl i) (by omega)) c⟩
  | succ r ih =>
    intro i uc us hi h1 h2
    unfold wL_state_58
    refine ⟨fun c => absurd c (nI_ge (by omega) (by omega)), fun _ => ⟨2, 12, by omega, by omega, r_owner hI (fun k hk e => ?_) (fun z => absurd (in_nI (by omega) (by omega)) z)⟩⟩
    have : i = k := nI_inj (by omega) hk (by omega) e
    subst this
    refine ⟨2, 12, by omega, by omega, r_cstate hI (fun k hk e => ?_) (fun z => absurd (in_nI (by omega) (by omega)) z)⟩
    have : i = k := nI_inj (by omega) hk (by omega) e
    subst this
    rw [nI_1]
    exact ih (i + 1) (uc + 2 + 2) (us + 12 + 12) (by omega) (by omega) (by omega)
theorem st_8 {t np nc nd no : Nat} {sn : Nat → Nat} {K : KS} {G : Int64 → Prop} {mc ms : Nat} (hI : V36 t np nc nd no sn K) (hnp : np ≤ 6) (hnc : nc ≤ 40) (hnd : nd ≤ 8) (hno : no ≤ 60) (hG : G (sQ K np nc nd no)) : ∀ r i uc us : Nat, i + r = np → uc + 4 * r + 376 ≤ mc → us + 24 * r + 2256 ≤ ms → wL_state_8 G mc ms (r + 1) uc us (nI np) (nI nc) (nI nd) (nI no) (sQp K nc i) (nI i) K := by
  intro r
  induction r with
  | zero =>
    intro i uc us hi h1 h2
    have : i = np := by omega
    subst this
    unfold wL_state_8
    exact ⟨fun _ => ⟨nc + 1, st_58 hI hnc hnd hno hG nc 0 uc us (by omega) (by omega) (by omega)⟩, fun c => absurd (nI_le (Nat.le_refl i) (by omega)) c⟩
  | succ r ih =>
    intro i uc us hi h1 h2
    unfold wL_state_8
    refine ⟨fun c => absurd c (nI_ge (by omega) (by omega)), fun _ => ⟨2, 12, by omega, by omega, r_coins hI (fun k hk e => ?_) (fun z => absurd (in_nI (by omega) (by omega)) z)⟩⟩
    have : i = k := nI_inj (by omega) hk (by omega) e
    subst this
    refine ⟨2, 12, by omega, by omega, r_cards hI (fun k hk e => ?_) (fun z => absurd (in_nI (by omega) (by omega)) z)⟩
    have : i = k := nI_inj (by omega) hk (by omega) e
    subst this
    rw [nI_1]
    exact ih (i + 1) (uc + 2 + 2) (us + 12 + 12) (by omega) (by omega) (by omega)
theorem st_ok {t np nc nd no : Nat} {sn : Nat → Nat} {K : KS} {G : Int64 → Prop} (hI : V36 t np nc nd no sn K) (hG : G (sQ K np nc nd no)) : wpL_state G 500 3000 K (nI np) (nI nc) (nI nd) (nI no) := by
  have hI2 := hI
  obtain ⟨ns, P, r, cn, dp, ew, go, bl, sl, sk, M, ap, h⟩ := hI
  have np3 := rx_np3 h
  have nc4 := rx_nc4 h
  have nd4 := rx_nd4 h
  have no4 := rx_no4 h
  exact ⟨np + 1, st_8 hI2 np3 nc4 nd4 no4 hG np 0 0 0 (by omega) (by omega) (by omega)⟩
