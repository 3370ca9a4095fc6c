/-! What the law asks behind each of its events. -/
theorem lg_self (x : Int64) : lg_cmp x x = 0 := by
  unfold lg_cmp
  rw [if_neg (by simp)]
  simp
theorem v36_up {t np nc nd no : Nat} {sn : Nat → Nat} {K : KS} (h : V36 t np nc nd no sn K) : V36 (t + 1) np nc nd no sn K := by
  obtain ⟨ns, P, r, cn, dp, ew, go, bl, sl, sk, M, ap, h⟩ := h
  exact ⟨ns, P, r, cn, dp, ew, go, bl, sl, sk, M, ap, rr_up (Nat.le_succ t) (Nat.le_succ t) h⟩
/-- a number of the script, cut to a range: the remainder of its lower bits -/
def lowF (v n : Int32) : Int32 := (v &&& 2147483647) - (v &&& 2147483647) / n * n
theorem and_nat (v : Int32) : ∃ a : Nat, a < 2 ^ 31 ∧ v &&& 2147483647 = nI a := by
  refine ⟨v.toBitVec.toNat % 2 ^ 31, Nat.mod_lt _ (by decide), ?_⟩
  apply Int32.toBitVec_inj.mp
  apply BitVec.eq_of_toNat_eq
  rw [Int32.toBitVec_and, BitVec.toNat_and]
  have e1 : (2147483647 : Int32).toBitVec.toNat = 2 ^ 31 - 1 := by decide
  have e2 : (nI (v.toBitVec.toNat % 2 ^ 31)).toBitVec.toNat = v.toBitVec.toNat % 2 ^ 31 := by
    have : v.toBitVec.toNat % 2 ^ 31 < 2 ^ 31 := Nat.mod_lt _ (by decide)
    show (BitVec.ofNat 32 (v.toBitVec.toNat % 2 ^ 31)).toNat = _
    rw [BitVec.toNat_ofNat, Nat.mod_eq_of_lt (by omega)]
  rw [e1, e2, Nat.and_two_pow_sub_one_eq_mod]
theorem low_nI {v : Int32} {n : Nat} (h1 : 1 ≤ n) (h2 : n ≤ 1000) : ∃ j, j < n ∧ lowF v (nI n) = nI j := by
  obtain ⟨a, ha, e⟩ := and_nat v
  unfold lowF
  rw [e]
  exact ⟨a % n, Nat.mod_lt _ (by omega), pk_rem (a := a) (d := n) ha (by omega) (by omega)⟩
theorem low_ok {G : Int32 → Prop} {K : KS} {v : Int32} {n : Nat} (h1 : 1 ≤ n) (h2 : n ≤ 1000) (h : G (lowF v (nI n))) : wpL_low G K v (nI n) :=
  ⟨fun z => absurd ((nI_eq (a := n) (b := 0) (by omega) (by omega)).mp z) (by omega), h⟩
theorem sumI_bd2 {f : Nat → Int32} {c N : Nat} (hc : c * N < 2 ^ 31) : ∀ n : Nat, n ≤ N → (∀ i, i < n → 0 ≤ (f i).toInt ∧ (f i).toInt ≤ (c : Int)) → 0 ≤ (sumI f n).toInt ∧ (sumI f n).toInt ≤ ((c * n : Nat) : Int) := by
  intro n
  induction n with
  | zero =>
    intro _ _
    refine ⟨?_, ?_⟩
    · show (0 : Int) ≤ (0 : Int32).toInt
      decide
    · show (0 : Int32).toInt ≤ ((c * 0 : Nat) : Int)
      rw [Nat.mul_zero]
      decide
  | succ n ih =>
    intro hn h
    obtain ⟨a1, a2⟩ := ih (by omega) (fun i hi => h i (by omega))
    obtain ⟨b1, b2⟩ := h n (by omega)
    have e0 : c * (n + 1) = c * n + c := Nat.mul_succ c n
    have e1 : c * (n + 1) ≤ c * N := Nat.mul_le_mul_left c hn
    have e2 : (sumI f n + f n).toInt = (sumI f n).toInt + (f n).toInt := toInt_addS rfl rfl (by omega) (by omega)
    show 0 ≤ (sumI f n + f n).toInt ∧ (sumI f n + f n).toInt ≤ _
    rw [e2]
    omega
theorem foldC_cnt {f : Nat → Int32} {p : Int32} : ∀ (r i : Nat) (a : Nat), foldC f p i r (nI (a + cntE f p i)) = nI (a + cntE f p (i + r)) := by
  intro r
  induction r with
  | zero => intro i a; rfl
  | succ r ih =>
    intro i a
    have e : (if f i = p then nI (a + cntE f p i) + 1 else nI (a + cntE f p i)) = nI (a + cntE f p (i + 1)) := by
      show _ = nI (a + (cntE f p i + if f i = p then 1 else 0))
      by_cases z : f i = p
      · rw [if_pos z, if_pos z, nI_1]
        rfl
      · rw [if_neg z, if_neg z]
        rfl
    show foldC f p (i + 1) r (if f i = p then nI (a + cntE f p i) + 1 else nI (a + cntE f p i)) = _
    rw [e, ih (i + 1) a]
    congr 2
    congr 1
    omega
theorem foldC_0 {f : Nat → Int32} {p : Int32} (n : Nat) : foldC f p 0 n 0 = nI (cntE f p n) := by
  have := foldC_cnt (f := f) (p := p) n 0 0
  rw [show nI (0 + cntE f p 0) = 0 from rfl] at this
  rw [this]
  congr 1
  rw [Nat.zero_add, Nat.zero_add]
theorem sum_one {np a : Nat} (ha : a < np) (hn : np ≤ 100) : sumN (fun p => if nI a = nI p then 1 else 0) np = 1 := by
  induction np with
  | zero => omega
  | succ np ih =>
    show sumN (fun p => if nI a = nI p then 1 else 0) np + (if nI a = nI np then 1 else 0) = 1
    by_cases z : a = np
    · rw [z, if_pos rfl, sumN_cong (g := fun _ => 0) (fun i hi => by
        show (if nI np = nI i then 1 else 0) = 0
        rw [if_neg (fun w => by have := (nI_eq (by omega) (by omega)).mp w; omega)]), sumN_zero]
    · rw [if_neg (fun w => z ((nI_eq (by omega) (by omega)).mp w)), ih (by omega) (by omega)]
theorem held_all {f : Nat → Int32} {np : Nat} (hn : np ≤ 100) : ∀ n, (∀ c, c < n → ∃ p, p < np ∧ f c = nI p) → sumN (fun p => cntE f (nI p) n) np = n := by
  intro n
  induction n with
  | zero =>
    intro _
    exact sumN_zero np
  | succ n ih =>
    intro h
    obtain ⟨a, ha, e⟩ := h n (by omega)
    show sumN (fun p => cntE f (nI p) n + if f n = nI p then 1 else 0) np = n + 1
    rw [sumN_add, ih (fun c hc => h c (by omega)), e, sum_one ha hn]
/-- what holds at the head of the law's loop -/
def J36 (t np nc nd no : Nat) (sn : Nat → Nat) (al : Int32) (uc us : Nat) (K M : KS) : Prop := V36 t np nc nd no sn K ∧ BD np (60000 * t + 1000) K ∧ K 0 2 0 = al ∧ (∀ d, d < 8 → M 16 0 d = nI (sn d)) ∧ uc ≤ 100 + 3000 * t ∧ us ≤ 5000 + 40000 * t
def HB (bk : Nat → Nat → Int32 → Int32 → Int32 → Int32 → Int32 → Int32 → KS → KS → Prop) (t : Nat) : Prop := ∀ (np nc nd no : Nat) (sn : Nat → Nat) (al : Int32) (uc us : Nat) (K M : KS), J36 (t + 1) np nc nd no sn al uc us K M → bk uc us (nI np) (nI nc) (nI nd) (nI no) al (nI (t + 1)) K M
/-- the sound end of an event -/
theorem e_1113 {bk : Nat → Nat → Int32 → Int32 → Int32 → Int32 → Int32 → Int32 → KS → KS → Prop} {t np nc nd no uc us : Nat} {sn : Nat → Nat} {al : Int32} {K M : KS} (hbk : HB bk t) (hJ : J36 (t + 1) np nc nd no sn al uc us K M) : wL_law_1113 bk uc us (nI np) (nI nc) (nI nd) (nI no) al (nI t) K M := by
  unfold wL_law_1113
  refine r_sound hJ.1 ⟨fun _ => ?_, fun z => absurd z (by decide)⟩
  rw [nI_1]
  exact hbk _ _ _ _ _ _ _ _ _ _ hJ
set_option maxRecDepth 100000 in
theorem e_1057 {bk : Nat → Nat → Int32 → Int32 → Int32 → Int32 → Int32 → Int32 → KS → KS → Prop} {t np nc nd no : Nat} {sn : Nat → Nat} {al : Int32} {K M : KS} {l17 : Int64} {l19 : Int32} (ht : t < 76) (hbk : HB bk t) (hV : V36 (t + 1) np nc nd no sn K) (hB : BD np (60000 * (t + 1) + 1000) K) (hal : K 0 2 0 = al) (hM : ∀ d, d < 8 → M 16 0 d = nI (sn d)) (hst : 0 ≤ l19 ∨ l17 = sQ K np nc nd no) :
    ∀ r i uc us : Nat, i + r = nc → uc + 4 * r ≤ 100 + 3000 * t + 2400 → us + 24 * r ≤ 5000 + 40000 * t + 36000 → wL_law_1057 bk (r + 1) uc us (nI np) (nI nc) (nI nd) (nI no) al (nI t) l17 l19 (nI i) K M := by
  have nc4 : nc ≤ 40 := by
    obtain ⟨ns, P, r, cn, dp, ew, go, bl, sl, sk, M, ap, h⟩ := hV
    exact rx_nc4 h
  intro r
  induction r with
  | zero =>
    intro i uc us hi h1 h2
    have : i = nc := by omega
    subst this
    unfold wL_law_1057
    have u1 : uc ≤ 100 + 3000 * (t + 1) := by omega
    have u2 : us ≤ 5000 + 40000 * (t + 1) := by omega
    have u3 : uc + 500 ≤ 100 + 3000 * (t + 1) := by omega
    have u4 : us + 3000 ≤ 5000 + 40000 * (t + 1) := by omega
    have hJ1 : J36 (t + 1) np i nd no sn al uc us K M := ⟨hV, hB, hal, hM, u1, u2⟩
    have hJ2 : J36 (t + 1) np i nd no sn al (uc + 500) (us + 3000) K M := ⟨hV, hB, hal, hM, u3, u4⟩
    refine ⟨fun _ => ⟨fun _ => e_1113 hbk hJ1, fun z => ⟨500, 3000, by omega, by omega, st_ok hV ⟨fun q => ?_, fun _ => e_1113 hbk hJ2⟩⟩⟩, fun c => absurd (nI_le (Nat.le_refl i) (by omega)) c⟩
    rcases hst with w | w
    · exact absurd w z
    · rw [w] at q
      exact absurd (lg_self _) q
  | succ r ih =>
    intro i uc us hi h1 h2
    unfold wL_law_1057
    refine ⟨fun c => absurd c (nI_ge (by omega) (by omega)), fun _ => ⟨2, 12, by omega, by omega, r_owner hV (fun k hk e => ?_) (fun z => absurd (in_nI (by omega) (by omega)) z)⟩⟩
    have : i = k := nI_inj (by omega) hk (by omega) e
    subst this
    refine ⟨2, 12, by omega, by omega, r_posted (by omega) hV (fun k hk e => ?_) (fun z => absurd (in_nI (by omega) (by omega)) z)⟩
    have : i = k := nI_inj (by omega) hk (by omega) e
    subst this
    refine ⟨fun _ => ?_, fun z => absurd rfl z⟩
    rw [nI_1]
    exact ih (i + 1) (uc + 2 + 2) (us + 12 + 12) (by omega) (by omega) (by omega)
/-- coins are neither made nor lost, in long numbers -/
theorem coins_all {t np nc nd no B : Nat} {sn : Nat → Nat} {K : KS} (ht : t ≤ 512) (hV : V36 t np nc nd no sn K) (hB : BD np B K) (hB2 : B ≤ 60000000) : (sumI (K 10 0) np + K 0 3 0).toInt64 + (K 0 4 0).toInt64 = (K 0 2 0).toInt64 := by
  obtain ⟨ns, P, r, cn, dp, ew, go, bl, sl, sk, M, ap, h⟩ := hV
  have sd := rx_sd h
  have ab := rx_ab h
  have np3 := rx_np3 h
  have hs := sumI_bd2 (f := K 10 0) (c := B) (N := 6) (by omega) np np3 hB.1
  have hh := hB.2
  have e0 : ((B * np : Nat) : Int) ≤ ((B * 6 : Nat) : Int) := Int.ofNat_le.mpr (Nat.mul_le_mul_left B np3)
  have e1 : (sumI (K 10 0) np + K 0 3 0).toInt = (sumI (K 10 0) np).toInt + (K 0 3 0).toInt := add_small rfl rfl (by omega) (by omega)
  have e2 : (sumI (K 10 0) np + K 0 3 0 + K 0 4 0).toInt64 = (sumI (K 10 0) np + K 0 3 0).toInt64 + (K 0 4 0).toInt64 := add_64 e1 rfl (by omega) (by omega)
  rw [← e2]
  congr 1
  rw [← sd]
  grind
set_option maxRecDepth 100000 in
theorem e_964 {bk : Nat → Nat → Int32 → Int32 → Int32 → Int32 → Int32 → Int32 → KS → KS → Prop} {t np nc nd no : Nat} {sn : Nat → Nat} {al : Int32} {K M : KS} {l17 : Int64} {l19 : Int32} (ht : t < 76) (hbk : HB bk t) (hV : V36 (t + 1) np nc nd no sn K) (hB : BD np (60000 * (t + 1) + 1000) K) (hal : K 0 2 0 = al) (hM : ∀ d, d < 8 → M 16 0 d = nI (sn d)) (hst : 0 ≤ l19 ∨ l17 = sQ K np nc nd no) :
    ∀ r i uc us : Nat, i + r = np → uc + 4 * r ≤ 100 + 3000 * t + 2000 → us + 24 * r ≤ 5000 + 40000 * t + 32000 → wL_law_964 bk (r + 1) uc us (nI np) (nI nc) (nI nd) (nI no) al (nI t) l17 l19 (sumI (K 10 0) i) (nI (sumN (fun p => cntE (K 4 2) (nI p) nc) i)) (nI i) K M := by
  have hV2 := hV
  obtain ⟨ns, P, r0, cn, dp, ew, go, bl, sl, sk, M0, ap, h⟩ := hV2
  have nc4 := rx_nc4 h
  have np3 := rx_np3 h
  have c2 := rx_c2 h
  intro r
  induction r with
  | zero =>
    intro i uc us hi h1 h2
    have : i = np := by omega
    subst this
    unfold wL_law_964
    refine ⟨fun _ => r_house (r_apart ⟨fun z => ?_, fun _ => ⟨fun z => ?_, fun _ => r_blocks hV ⟨fun _ => ⟨nc + 1, e_1057 ht hbk hV hB hal hM hst nc 0 uc us (by omega) (by omega) (by omega)⟩, fun z => absurd (nI_le (b := 288) (bkN_le K) (by omega)) z⟩⟩⟩), fun c => absurd (nI_le (Nat.le_refl i) (by omega)) c⟩
    · rw [coins_all (by omega) hV hB (by omega), hal] at z
      exact absurd (lg_self _) z
    · rw [held_all (by omega) nc (fun c hc => (c2 c hc).2)] at z
      exact absurd rfl z
  | succ r ih =>
    intro i uc us hi h1 h2
    unfold wL_law_964
    refine ⟨fun c => absurd c (nI_ge (by omega) (by omega)), fun _ => ⟨2, 12, by omega, by omega, r_coins hV (fun k hk e => ?_) (fun z => absurd (in_nI (by omega) (by omega)) z)⟩⟩
    have : i = k := nI_inj (by omega) hk (by omega) e
    subst this
    refine ⟨2, 12, by omega, by omega, r_cards hV (fun k hk e => ?_) (fun z => absurd (in_nI (by omega) (by omega)) z)⟩
    have : i = k := nI_inj (by omega) hk (by omega) e
    subst this
    refine ⟨fun _ => ?_, fun z => absurd (Int32.le_iff_toInt_le.mpr (show (0 : Int32).toInt ≤ (K 10 0 i).toInt from (hB.1 i hk).1)) z⟩
    rw [nI_1, foldC_0, nI_add]
    exact ih (i + 1) (uc + 2 + 2) (us + 12 + 12) (by omega) (by omega) (by omega)
set_option maxRecDepth 100000 in
theorem e_955 {bk : Nat → Nat → Int32 → Int32 → Int32 → Int32 → Int32 → Int32 → KS → KS → Prop} {t np nc nd no uc us : Nat} {sn : Nat → Nat} {al : Int32} {K M : KS} {l17 : Int64} {l19 : Int32} (ht : t < 76) (hbk : HB bk t) (hV : V36 (t + 1) np nc nd no sn K) (hB : BD np (60000 * (t + 1) + 1000) K) (hal : K 0 2 0 = al) (hM : ∀ d, d < 8 → M 16 0 d = nI (sn d)) (hst : 0 ≤ l19 ∨ l17 = sQ K np nc nd no) (huc : uc ≤ 100 + 3000 * t + 1900) (hus : us ≤ 5000 + 40000 * t + 31000) : wL_law_955 bk uc us (nI np) (nI nc) (nI nd) (nI no) al (nI t) l17 l19 K M := by
  have np3 : np ≤ 6 := by
    obtain ⟨ns, P, r, cn, dp, ew, go, bl, sl, sk, M, ap, h⟩ := hV
    exact rx_np3 h
  unfold wL_law_955
  exact ⟨np + 1, e_964 ht hbk hV hB hal hM hst np 0 uc us (by omega) (by omega) (by omega)⟩
