/-! A duel is taken back to a snapshot: blocks forgotten, numbers read, the state resumed. -/
def pF (sn : Nat → Nat) (lo x : Nat) : Nat → Bool := fun R => kpB sn R && !decide (lo ≤ R ∧ R < lo + x)
theorem pF_step (sn : Nat → Nat) (lo x : Nat) : ∀ R, R < 288 → pU (pF sn lo x) (lo + x) false R = pF sn lo (x + 1) R := by
  intro R _
  rw [pU_if]
  unfold pF
  by_cases z : R = lo + x
  · rw [if_pos z, decide_eq_true (p := lo ≤ R ∧ R < lo + (x + 1)) (by omega)]
    show false = (kpB sn R && false)
    rw [Bool.and_false]
  · rw [if_neg z]
    congr 2
    exact decide_eq_decide.mpr ⟨fun w => by omega, fun w => by omega⟩
theorem cl_drop {post : Unit → KS → Prop} {K : KS} {b u : Nat} (hb : b < 288) (hu : u < 288) (h : K 10 3 b = nI (u + 1)) (hp : post () (kr K 10 3 (va_up (K 10 3) b (K 10 3 b - 1)))) : wpX0_dropBlock post K (nI b) := by
  unfold wpX0_dropBlock
  rw [nI_clamp (n := b) (by omega)]
  refine ⟨fun z => absurd z (nI_pos (by omega)), fun _ => ⟨fun z => absurd z (nI_ge (a := b) (b := 288) (by omega) (by omega)), fun _ => ⟨vp_in_nI (by omega) (by omega), fun z => ?_, fun _ => hp⟩⟩⟩
  rw [h] at z
  have := (nI_leI (a := u + 1) (b := 0) (by omega) (by omega)).mp z
  omega
theorem cl_f28 {post : Unit → KS → Prop} {bk17 : Nat → Int32 → Int32 → KS → Prop} {K : KS} {d s a nd : Nat} {sn bl : Nat → Nat} {m : Nat → Int32} (hD : nD K = nd) (hd : d < nd) (hnd : nd ≤ 8) (hs : s + 1 + a < sn d) (hs6 : sn d ≤ 6) (hp : ∀ ks, BS (pF sn (36 * d + 6 * (s + 1)) (6 * (a + 1))) bl (K 10 2) ks (K 19) m → bk17 d (nI s) (nI (s + 1 + (a + 1))) (kr K 10 3 ks)) : ∀ r i ks, i + r = 6 → BS (pF sn (36 * d + 6 * (s + 1)) (6 * a + i)) bl (K 10 2) ks (K 19) m → wX2_forgetLaterThan_28 post bk17 (r + 1) d (nI s) (nI (s + 1 + a)) (nI i) (kr K 10 3 ks) := by
  intro r
  induction r with
  | zero =>
    intro i ks hi hB
    have : i = 6 := by omega
    subst this
    unfold wX2_forgetLaterThan_28
    rw [nI_1]
    exact ⟨fun _ => hp ks hB, fun z => absurd (nI_le (a := 6) (b := 6) (by omega) (by omega)) z⟩
  | succ r ih =>
    intro i ks hi hB
    have hB' := hB
    obtain ⟨B1, B2, B3⟩ := hB'
    have hx : 36 * d + 6 * (s + 1) + (6 * a + i) < 288 := by omega
    have hpx : pF sn (36 * d + 6 * (s + 1)) (6 * a + i) (36 * d + 6 * (s + 1) + (6 * a + i)) = true := by
      unfold pF kpB
      rw [decide_eq_false (p := 36 * d + 6 * (s + 1) ≤ 36 * d + 6 * (s + 1) + (6 * a + i) ∧ 36 * d + 6 * (s + 1) + (6 * a + i) < 36 * d + 6 * (s + 1) + (6 * a + i)) (by omega)]
      have e1 : (36 * d + 6 * (s + 1) + (6 * a + i)) / 36 = d := by omega
      have e2 : (36 * d + 6 * (s + 1) + (6 * a + i)) / 6 % 6 = s + 1 + a := by omega
      rw [e1, e2, decide_eq_true hs]
      rfl
    obtain ⟨A1, A2, A3⟩ := B1 _ hx hpx
    obtain ⟨⟨u, u1, u2⟩, D⟩ := BS_drop hB hx hpx
    have e1 : (36 * d + 6 * (s + 1) + (6 * a + i)) / 6 = 6 * d + (s + 1 + a) := by omega
    have e2 : (36 * d + 6 * (s + 1) + (6 * a + i)) % 6 = i := by omega
    rw [e1, e2] at A1
    have hr : (kr K 10 3 ks) 19 (6 * d + (s + 1 + a)) i = nI (bl (36 * d + 6 * (s + 1) + (6 * a + i))) := A1
    have hk : (kr K 10 3 ks) 10 3 (bl (36 * d + 6 * (s + 1) + (6 * a + i))) = nI (u + 1) := u2
    unfold wX2_forgetLaterThan_28
    rw [nI_clamp (n := s + 1 + a) (by omega), nI_clamp (n := i) (by omega), hr, nI_1 (a := i)]
    refine ⟨fun z => absurd z (nI_ge (a := i) (b := 6) (by omega) (by omega)), fun _ => ⟨by show d < nD K; omega, vp_in_nI (by omega) (by omega), vp_in_nI (by omega) (by omega), ?_⟩⟩
    refine cl_drop A2 u1 hk ?_
    show wX2_forgetLaterThan_28 post bk17 (r + 1) d (nI s) (nI (s + 1 + a)) (nI (i + 1)) (kr (kr K 10 3 ks) 10 3 (va_up ks (bl (36 * d + 6 * (s + 1) + (6 * a + i))) (ks (bl (36 * d + 6 * (s + 1) + (6 * a + i))) - 1)))
    rw [kr_kr]
    refine ih (i + 1) _ (by omega) ?_
    exact BS_cong (fun R hR => pF_step sn _ _ R hR) D
theorem cl_f17 {post : Unit → KS → Prop} {K : KS} {d s nd : Nat} {sn bl : Nat → Nat} {m : Nat → Int32} (hD : nD K = nd) (hd : d < nd) (hnd : nd ≤ 8) (h8 : K 6 8 d = nI (sn d)) (hs6 : sn d ≤ 6) (hp : ∀ ks, BS (pF sn (36 * d + 6 * (s + 1)) (6 * (sn d - (s + 1)))) bl (K 10 2) ks (K 19) m → post () (k3 (kr K 10 3 ks) 6 8 d (nI (s + 1)))) : ∀ r a ks, s + 1 + a + r = sn d → BS (pF sn (36 * d + 6 * (s + 1)) (6 * a)) bl (K 10 2) ks (K 19) m → wX2_forgetLaterThan_17 post (r + 1) d (nI s) (nI (s + 1 + a)) (kr K 10 3 ks) := by
  intro r
  induction r with
  | zero =>
    intro a ks ha hB
    have h8b : (kr K 10 3 ks) 6 8 d = nI (sn d) := h8
    unfold wX2_forgetLaterThan_17
    rw [h8b, nI_1]
    refine ⟨by show d < nD K; omega, fun _ => ?_, fun z => absurd (nI_le (a := sn d) (b := s + 1 + a) (by omega) (by omega)) z⟩
    refine hp ks ?_
    rw [show sn d - (s + 1) = a by omega]
    exact hB
  | succ r ih =>
    intro a ks ha hB
    have h8b : (kr K 10 3 ks) 6 8 d = nI (sn d) := h8
    unfold wX2_forgetLaterThan_17
    rw [h8b]
    refine ⟨by show d < nD K; omega, fun z => absurd z (nI_ge (a := s + 1 + a) (b := sn d) (by omega) (by omega)), fun _ => ⟨7, ?_⟩⟩
    exact cl_f28 (post := post) hD hd hnd (by omega) hs6 (fun ks2 h2 => ih (a + 1) ks2 (by omega) h2) 6 0 ks (by omega) hB
theorem pF_end {sn : Nat → Nat} {d s : Nat} (hs : s < sn d) (hs6 : ∀ e, e < 8 → sn e ≤ 6) : ∀ R, R < 288 → pF sn (36 * d + 6 * (s + 1)) (6 * (sn d - (s + 1))) R = kpB (va_up sn d (s + 1)) R := by
  intro R hR
  have h6 := hs6 (R / 36) (by omega)
  unfold pF kpB
  rw [up_if]
  by_cases z : R / 36 = d
  · rw [if_pos z, z]
    rw [z] at h6
    by_cases w : R / 6 % 6 < s + 1
    · rw [decide_eq_true w, decide_eq_true (p := R / 6 % 6 < sn d) (by omega), decide_eq_false (p := 36 * d + 6 * (s + 1) ≤ R ∧ R < 36 * d + 6 * (s + 1) + 6 * (sn d - (s + 1))) (by omega)]
      rfl
    · rw [decide_eq_false w]
      by_cases v : R / 6 % 6 < sn d
      · rw [decide_eq_true v, decide_eq_true (p := 36 * d + 6 * (s + 1) ≤ R ∧ R < 36 * d + 6 * (s + 1) + 6 * (sn d - (s + 1))) (by omega)]
        rfl
      · rw [decide_eq_false v]
        rfl
  · rw [if_neg z]
    by_cases v : 36 * d + 6 * (s + 1) ≤ R ∧ R < 36 * d + 6 * (s + 1) + 6 * (sn d - (s + 1))
    · have h7 := hs6 d
      by_cases y : d < 8
      · have := h7 y
        omega
      · omega
    · rw [decide_eq_false v]
      show (_ && true) = _
      rw [Bool.and_true]
theorem cl_forget {post : Unit → KS → Prop} {K : KS} {d s nd : Nat} {sn bl : Nat → Nat} {m : Nat → Int32} (hD : nD K = nd) (hd : d < nd) (hnd : nd ≤ 8) (h8 : K 6 8 d = nI (sn d)) (hs : s < sn d) (hs6 : ∀ e, e < 8 → sn e ≤ 6) (hB : BS (kpB sn) bl (K 10 2) (K 10 3) (K 19) m) (hp : ∀ ks, BS (kpB (va_up sn d (s + 1))) bl (K 10 2) ks (K 19) m → post () (k3 (kr K 10 3 ks) 6 8 d (nI (s + 1)))) : wpX2_forgetLaterThan post K d (nI s) := by
  have h6 := hs6 d (by omega)
  have h0 : BS (pF sn (36 * d + 6 * (s + 1)) (6 * 0)) bl (K 10 2) (K 10 3) (K 19) m := by
    refine BS_cong (fun R hR => ?_) hB
    unfold pF
    rw [decide_eq_false (p := 36 * d + 6 * (s + 1) ≤ R ∧ R < 36 * d + 6 * (s + 1) + 6 * 0) (by omega)]
    show _ = (_ && true)
    rw [Bool.and_true]
  have run := cl_f17 (post := post) (s := s) hD hd hnd h8 h6 (fun ks hk => hp ks (BS_cong (pF_end hs hs6) hk)) (sn d - (s + 1)) 0 (K 10 3) (by omega) h0
  rw [kr_id] at run
  unfold wpX2_forgetLaterThan
  rw [h8, nI_1]
  exact ⟨fun z => absurd z (nI_pos (by omega)), fun _ => ⟨by omega, fun _ => ⟨_, run⟩, fun z => absurd (nI_lt hs (by omega)) z⟩⟩
def rS1 (K : KS) (d : Nat) : KS := k3 K 7 1 (2 * d) (K 10 1 0)
def rS2 (K : KS) (d : Nat) : KS := k3 (rS1 K d) 7 1 (2 * d + 1) (K 10 1 1)
def rS4 (K : KS) (d : Nat) : KS := k3 (k3 (rS2 K d) 6 4 d (K 10 1 2)) 6 5 d (K 10 1 3)
def rS5 (K : KS) (d : Nat) : KS := kr (rS4 K d) 18 (2 * d) (va_cpy (K 10 1) (K 18 (2 * d)) 4 0 8)
def rS6 (K : KS) (d : Nat) : KS := kr (rS5 K d) 18 (2 * d + 1) (va_cpy (K 10 1) (rS5 K d 18 (2 * d + 1)) 12 0 8)
def rS (K : KS) (d s : Nat) : KS := k3 (k3 (kr (k3 (rS6 K d) 6 7 d (K 10 1 20)) 17 d (va_cpy (K 20 (6 * d + s)) (K 17 d) 0 0 8)) 6 2 d 103) 6 3 d (-1)
theorem cl_resume {post : Unit → KS → Prop} {K : KS} {d s nd : Nat} (hD : nD K = nd) (hd : d < nd) (hs : s < 6) (hp : post () (rS K d s)) : wpX2_resume post K d (nI s) := by
  have c0 : (0 : Int32).toNatClampNeg = 0 := by decide
  have c1 : (1 : Int32).toNatClampNeg = 1 := by decide
  have c2 : (2 : Int32).toNatClampNeg = 2 := by decide
  have c3 : (3 : Int32).toNatClampNeg = 3 := by decide
  have c4 : (4 : Int32).toNatClampNeg = 4 := by decide
  have c8 : (8 : Int32).toNatClampNeg = 8 := by decide
  have c12 : (12 : Int32).toNatClampNeg = 12 := by decide
  have c20 : (20 : Int32).toNatClampNeg = 20 := by decide
  unfold wpX2_resume
  refine ⟨fun z => absurd z (nI_pos (by omega)), fun _ => ⟨fun z => absurd z (nI_ge (a := s) (b := 6) (by omega) (by omega)), fun _ => ⟨fun _ => ⟨by omega, vp_in_nI (n := 0) (by omega) (by omega), vp_in_nI (n := 1) (by omega) (by omega), vp_in_nI (n := 2) (by omega) (by omega), vp_in_nI (n := 3) (by omega) (by omega), by show 2 * d < 2 * nD K; omega, by unfold okCpy; decide, by show 2 * d + 1 < 2 * nD K; omega, by unfold okCpy; decide, vp_in_nI (n := 20) (by omega) (by omega), vp_in_nI hs (by omega), by unfold okCpy; decide, ?_⟩, fun z => absurd (nI_le (a := 24) (b := 24) (by omega) (by omega)) z⟩⟩⟩
  rw [c0, c1, c2, c3, c4, c8, c12, c20, nI_clamp (n := s) (by omega)]
  exact hp
theorem cl_r151 {post : Int32 → KS → Prop} {px : String → KS → Prop} {mc ms uc us : Nat} {K : KS} {d s nd : Nat} {l4 : Int32} {bl sn : Nat → Nat} {m : Nat → Int32} (hD : nD K = nd) (hd : d < nd) (hnd : nd ≤ 8) (hs : s < sn d) (hs6 : s < 6) (hB : BS (kpB sn) bl (K 10 2) (K 10 3) (K 19) m) (hp : ∀ f, (∀ i, i < 24 → f i = m (24 * (6 * d + s) + i)) → post l4 (rS (kr K 10 1 f) d s)) : ∀ r i f, i + r = 24 → (∀ j, j < i → f j = m (24 * (6 * d + s) + j)) → wX6_rollBack_151 post px mc ms (r + 1) uc us (nI s) d l4 (nI i) (kr K 10 1 f) := by
  intro r
  induction r with
  | zero =>
    intro i f hi hf
    have : i = 24 := by omega
    subst this
    unfold wX6_rollBack_151
    refine ⟨fun _ => ⟨by show d < nD K; omega, ?_⟩, fun z => absurd (nI_le (a := 24) (b := 24) (by omega) (by omega)) z⟩
    exact cl_resume (K := kr K 10 1 f) (nd := nd) hD hd hs6 (hp f hf)
  | succ r ih =>
    intro i f hi hf
    obtain ⟨B1, B2, B3⟩ := hB
    unfold wX6_rollBack_151
    refine ⟨fun z => absurd z (nI_ge (a := i) (b := 24) (by omega) (by omega)), fun _ => ⟨by show d < nD K; omega, ?_⟩⟩
    have kR : kpB sn (36 * d + 6 * s + i / 4) = true := by
      unfold kpB
      rw [show (36 * d + 6 * s + i / 4) / 36 = d by omega, show (36 * d + 6 * s + i / 4) / 6 % 6 = s by omega]
      exact decide_eq_true hs
    refine kn_ok (K := kr K 10 1 f) (sn := sn) (bl := bl) (f := m) (nd := nd) hD hd hnd hs6 (by omega) (B1 _ (by omega) kR) ⟨vp_in_nI (by omega) (by omega), ?_⟩
    rw [nI_clamp (n := i) (by omega), nI_1]
    show wX6_rollBack_151 post px mc ms (r + 1) uc us (nI s) d l4 (nI (i + 1)) (kr (kr K 10 1 f) 10 1 (va_up f i (m (24 * (6 * d + s) + i))))
    rw [kr_kr]
    refine ih (i + 1) _ (by omega) (fun j hj => ?_)
    rw [up_if]
    by_cases z : j = i
    · rw [if_pos z, z]
    · rw [if_neg z]
      exact hf j (by omega)
theorem cl_r139 {post : Int32 → KS → Prop} {px : String → KS → Prop} {mc ms uc us : Nat} {K : KS} {d s nd : Nat} {l4 : Int32} {bl sn : Nat → Nat} {m : Nat → Int32} (hD : nD K = nd) (hd : d < nd) (hnd : nd ≤ 8) (h8 : K 6 8 d = nI (sn d)) (hs : s < sn d) (hs6 : ∀ e, e < 8 → sn e ≤ 6) (hB : BS (kpB sn) bl (K 10 2) (K 10 3) (K 19) m) (hp : ∀ ks f, BS (kpB (va_up sn d (s + 1))) bl (K 10 2) ks (K 19) m → (∀ i, i < 24 → f i = m (24 * (6 * d + s) + i)) → post l4 (rS (kr (k3 (kr K 10 3 ks) 6 8 d (nI (s + 1))) 10 1 f) d s)) : wX6_rollBack_139 post px mc ms uc us (nI s) d l4 K := by
  have h6 := hs6 d (by omega)
  unfold wX6_rollBack_139
  refine ⟨by omega, cl_forget hD hd hnd h8 hs hs6 hB (fun ks hk => ⟨24 + 1, ?_⟩)⟩
  have run := cl_r151 (post := post) (px := px) (mc := mc) (ms := ms) (uc := uc) (us := us) (K := k3 (kr K 10 3 ks) 6 8 d (nI (s + 1))) (nd := nd) (s := s) (l4 := l4) (sn := va_up sn d (s + 1)) (bl := bl) (m := m) hD hd hnd (by rw [va_up_s]; omega) (by omega) hk (fun f hf => hp ks f hk hf) 24 0 ((k3 (kr K 10 3 ks) 6 8 d (nI (s + 1))) 10 1) (by omega) (fun j hj => absurd hj (Nat.not_lt_zero j))
  rw [kr_id] at run
  exact run

